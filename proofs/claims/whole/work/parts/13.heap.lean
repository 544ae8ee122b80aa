section ZH
variable {E : ME} {p : Program} {l : Launch} {e : Env} {R : Room} {s : State} {m : MethodId} {args : Array Value} {below : List Frame} {meth : Method} {c : Code} {Qf : State → Prop} {hf h0 : MH} {nL : Nat}
variable {cc : ByteArray} {pc nx : Nat} {L : Loc'} {st : List V} {h : MH} {C : KC} {Q : KQ}
theorem va_P1 {D : va_G} {cl : List vw_C} {a : Nat} {x : va_E} {H : Heap} (h : va_at D cl (a, x) H) : va_P D cl [(a, x)] H := fun k q hk => by
  cases k with
  | zero => cases hk; exact h
  | succ k => simp at hk
/-- what a field's instruction asks of the tables -/
def fOK (s : State) (k w : Nat) (ref name desc : String) : Prop :=
  ∀ t, t < 14 → okSet w t = true → k < cL t ∧ (cT t k).2.1 = name ∧ (cT t k).2.2.1 = desc ∧ ∀ x, s.fieldFound? (cT t k).1 name desc = some x → s.fieldFound? ref name desc = some x
/-- a text's field -/
theorem z_gets (hx : p.tables.exec = Jvm.exec) (hb : c.code = cc) (hU : KU E s) {own ref name desc : String} {ix k : Nat} (hown : s.vm.findClass own = some m.cls) (hlink : (Cond.fieldLink own ix ref name desc).before args s = true) (hF : ref = "java/lang/String" ∧ ((k = 0 ∧ name = "value" ∧ desc = "[B") ∨ (k = 1 ∧ name = "coder" ∧ desc = "B"))) (hd : decode cc pc = .ok (.getfield ix, 3)) (hs : s_gets E.2.2.2 C Q (mmW E p l e R s m args below meth c Qf hf h0 nL) (pc + 3) k L st h) : mmX E p l e R s m args below meth c Qf h0 nL pc L st h := by
  intro hg wl ws hn H locs ls hR hlo hls
  unfold s_gets at hs; split at hs
  · rename_i a st'
    cases hro : E.2.2.2.2.2.2 a with
    | none => rw [hro] at hs; unfold xRoS at hs; split at hs <;> first | exact hs.elim | (rename_i q; cases q)
    | some v =>
      rw [hro] at hs
      obtain ⟨-, hV, hC⟩ := hU.2.2.2.2.2.2.2.2.2 a v hro
      obtain ⟨rfl, ⟨rfl, rfl, rfl⟩ | ⟨rfl, rfl, rfl⟩⟩ := hF
      · have k2 := hs.2 hg wl (wfS_c (v := vR v) trivial (wfS_t ws)) hn H locs ls hR hlo hls
        obtain ⟨cf, kf, fi, f, cell, e1, e2, e3, e4, e5, e6⟩ := hV
        exact W.getf hx hb hown hlink e1 e2 (by rw [hR.2.1 a (Nat.not_le.mp e6)]; exact e3) e4 e5 rfl rfl hd k2
      · have k2 := hs.2 hg wl (wfS_c (v := vI 0) iR_0 (wfS_t ws)) hn H locs ls hR hlo hls
        obtain ⟨cf, kf, fi, f, cell, e1, e2, e3, e4, e5, e6⟩ := hC
        exact W.getf hx hb hown hlink e1 e2 (by rw [hR.2.1 a (Nat.not_le.mp e6)]; exact e3) e4 e5 rfl rfl hd k2
  · exact hs.elim
theorem z_getf (hx : p.tables.exec = Jvm.exec) (hb : c.code = cc) (hts : ∀ w ∈ mT, w.before args s = true) (hU : KU E s) {own ref name desc : String} {ix k w : Nat} (hown : s.vm.findClass own = some m.cls) (hlink : (Cond.fieldLink own ix ref name desc).before args s = true) (hF : fOK s k w ref name desc) (hd : decode cc pc = .ok (.getfield ix, 3)) (hs : s_getf E.2.2.2 C Q (mmW E p l e R s m args below meth c Qf hf h0 nL) (pc + 3) k w L st h) : mmX E p l e R s m args below meth c Qf h0 nL pc L st h := by
  intro hg wl ws hn H locs ls hR hlo hls
  unfold s_getf at hs; split at hs
  · rename_i a st'
    unfold xGet at hs; split at hs
    · rename_i t fs hc
      obtain ⟨hok, hs⟩ := hs
      split at hs
      · rename_i v hv
        obtain ⟨hRc, hwf⟩ := hR.2.2 a _ hc
        have k2 := hs.2 hg wl (wfS_c (hwf v (List.mem_of_getElem? hv)) (wfS_t ws)) hn H locs ls hR hlo hls
        rcases hRc with ⟨⟨h14, hlen⟩, -, hat⟩ | hro
        · obtain ⟨g1, g2, g3, g4⟩ := hF t h14 hok
          subst g2; subst g3
          exact va_get (D := E.1) (cl := mCl) (ci := t) (v := cV v) (C := cN t) (T := cT t) (N := cL t) hx hb hts (g_lay h14) hown hU.1 (va_P1 hat) 0 rfl (mCl_get h14) k g1 hlink g4 (by rw [List.getElem?_map, hv]; rfl) hd k2
        · exact hro.elim
      · exact hs.elim
    · exact hs.elim
  · exact hs.elim
/-- what a field's store asks of the tables -/
def pOK (s : State) (own : String) (ini : Bool) (k w ty : Nat) (ref name desc : String) : Prop :=
  ∀ t, t < 14 → okSet w t = true → k < cL t ∧ (cT t k).2.1 = name ∧ (cT t k).2.2.1 = desc ∧ (∀ x, s.fieldFound? (cT t k).1 name desc = some x → s.fieldFound? ref name desc = some x) ∧
    ((cT t k).2.2.2 = false ∨ ((cT t k).2.2.2 = true ∧ ini = true ∧ (cT t k).1 = own)) ∧ ((ty = 0 ∧ desc = "I") ∨ (ty = 1 ∧ desc = "Z") ∨ (ty = 2 ∧ ∃ ft, parseFieldDescriptor desc = some ft ∧ ft.isReference = true))
theorem fit_ref {ft : FieldType} (h : ft.isReference = true) (r : Option Nat) : narrow ft (cV (vO r)) = cV (vO r) ∧ fits ft (cV (vO r)) = true := by
  cases ft <;> first | (cases r <;> exact ⟨rfl, rfl⟩) | cases h
theorem fit_of {ty : Nat} {v : V} {desc : String} (hv : vFit ty v) (hd : (ty = 0 ∧ desc = "I") ∨ (ty = 1 ∧ desc = "Z") ∨ (ty = 2 ∧ ∃ ft, parseFieldDescriptor desc = some ft ∧ ft.isReference = true)) : ∃ ft, parseFieldDescriptor desc = some ft ∧ narrow ft (cV v) = cV v ∧ fits ft (cV v) = true := by
  rcases hd with ⟨rfl, rfl⟩ | ⟨rfl, rfl⟩ | ⟨rfl, ft, h1, h2⟩
  · rcases v with x | x | r
    · exact ⟨.int, by decide +kernel, rfl, rfl⟩
    · exact hv.elim
    · exact hv.elim
  · rcases v with x | x | r
    · refine ⟨.boolean, by decide +kernel, ?_, ?_⟩ <;> rcases hv with rfl | rfl <;> rfl
    · exact hv.elim
    · exact hv.elim
  · rcases v with x | x | r
    · exact hv.elim
    · exact hv.elim
    · exact ⟨ft, h1, (fit_ref h2 r).1, (fit_ref h2 r).2⟩
theorem z_putf (hx : p.tables.exec = Jvm.exec) (hb : c.code = cc) (hts : ∀ w ∈ mT, w.before args s = true) (hU : KU E s) {own ref name desc : String} {ini : Bool} (hini : ini = true → meth.name = "<init>") {ix k w ty : Nat} (hown : s.vm.findClass own = some m.cls) (hlink : (Cond.fieldLink own ix ref name desc).before args s = true) (hF : pOK s own ini k w ty ref name desc) (hd : decode cc pc = .ok (.putfield ix, 3)) (hs : s_putf E.2.2.2 C Q (mmW E p l e R s m args below meth c Qf hf h0 nL) (pc + 3) k w ty L st h) : mmX E p l e R s m args below meth c Qf h0 nL pc L st h := by
  intro hg wl ws hn H locs ls hR hlo hls
  unfold s_putf at hs; split at hs
  · rename_i v a st'
    obtain ⟨hvf, hs⟩ := hs
    unfold xPut at hs; split at hs
    · rename_i t fs hc
      obtain ⟨hok, h14, hkl, hs⟩ := hs
      obtain ⟨hRc, hwf⟩ := hR.2.2 a _ hc
      rcases hRc with ⟨⟨-, hlen⟩, hba, hat⟩ | hro
      · obtain ⟨g1, g2, g3, g4, g5, g6⟩ := hF t h14 hok
        subst g2; subst g3
        obtain ⟨ft, f1, f2, f3⟩ := fit_of hvf g6
        have hap := va_apart (own := own) hts (g_lay h14) (tyOf t) (g_ty h14) (g_nm h14) hU.1 (mCl_get h14)
        obtain ⟨r, h1, cell, q1, q2, q3, q4⟩ := hat
        have hr : r = (cN t, cT t, cL t) := Option.some.inj (h1.symm.trans (mCl_get h14))
        subst hr
        obtain ⟨hS, hfc, kC, hkC, hkind⟩ := hU.1.1 t _ (mCl_get h14)
        obtain ⟨cf, kf, fi, f, hi, hsl⟩ := hS k g1
        have hlay := hts _ (g_lay h14 _ (u_in_lay g1))
        unfold u_lay at hlay
        have hst := (u_facts hfc hkC (u_lays hts (g_lay h14) g1) hi).1
        have fin : ∀ H' : Heap, H'[a]? = some (cell.setSlot f.slot (cV v)) → H'.size = H.size → (∀ q, q ≠ a → H'[q]? = H[q]?) → W p l e R s m args below meth c H' (locs ++ [⟨a, f.slot⟩]) (h.1 - h0.1) (h.2.1 - h0.2.1) Qf (F0 m (pc + 3) ls (st'.map cV)) := by
          intro H' e1 e2 e3
          rw [hsl] at e1
          have hat' : va_at E.1 mCl (a, .inr (t, (fs.set k v).map cV)) H' := ⟨_, mCl_get h14, t_OB.to (V := updV (vp_V (fs.map cV)) k (cV v)) ⟨_, e1, q2, q3, t_set q4 hap g1 (cV v)⟩ (fun j _ => by rw [List.map_set]; exact vp_updV_set (by simpa using hkl) (cV v) j)⟩
          have hR' : mmR E s (hset h a (cObj t (fs.set k v))) H' := mmR_set hR hc ⟨h14, hlen⟩ e2 e3 ⟨h14, by simpa using hlen⟩ hat' (fun x hx => by
            rcases List.mem_or_eq_of_mem_set hx with hx | rfl
            · exact hwf x hx
            · exact wfS_h ws)
          exact hs.2 hg wl (wfS_t (wfS_t ws)) hn H' _ ls hR' (fun q hq => by
            rcases List.mem_append.mp hq with hq | hq
            · exact hlo q hq
            · rw [List.mem_singleton.mp hq]; exact hba) hls
        rcases g5 with g5 | ⟨g5, g7, g8⟩
        · rw [if_neg (by rw [g5]; decide)] at hlay
          have h6 := u_store hfc hkC hkind hlay hi f1 f2 f3
          exact W.putK hx hb (f := f) ⟨hown, hlink, ⟨_, _, _, g4 _ hi⟩, hst⟩ (by rw [q2]; exact h6) q1 q3 (by rw [hsl]; exact k2_hasslot (q4 k g1)) rfl rfl hd fin
        · rw [if_pos g5] at hlay
          have hcf : m.cls = cf := by
            obtain ⟨_, _, c', _, _, _, -, -, hf', -, -, -, hown2, -⟩ := Cond.laysFinal_spec hlay
            have e1 : c' = cf := by have := hi.symm.trans hf'; simp at this; exact this.1.symm
            rw [g8] at hown2
            rw [← e1]; exact Option.some.inj (hown.symm.trans hown2)
          have h6 := u_fits hfc hkC hkind (Or.inr hlay) hi f1 f2 f3
          exact W.putFinK hx hb hown hlink (g4 _ hi) hst hcf (hini g7) (by rw [q2]; exact h6) q1 q3 (by rw [hsl]; exact k2_hasslot (q4 k g1)) rfl rfl hd fin
      · exact hro.elim
    · exact hs.elim
  · exact hs.elim
theorem ar_ty {E : ME} {s : State} (hU : KU E s) : (ArrOfT s E.2.1.1 .int ∧ ArrOfT s E.2.1.2.1 .boolean ∧ ArrOfT s E.2.1.2.2 oA) :=
  ⟨(hU.1.2 0 (E.2.1.1, .int) rfl).1, (hU.1.2 1 (E.2.1.2.1, .boolean) rfl).1, (hU.1.2 2 (E.2.1.2.2, oA) rfl).1⟩
/-- an element of a row of numbers, as the machine has it -/
theorem rowI {E : ME} {s : State} (hU : KU E s) {H : Heap} {a ty n : Nat} {f : Nat → Int} (h : Rc E s H a (cArr ty n f)) : ∃ (cell : Cell) (ft : FieldType), H[a]? = some cell ∧ s.isArrayOf cell ft ∧ cell.vm ≠ .unknown ∧ n ≤ cell.slots.size ∧ cell.slots.size.toInt32 = Int32.ofNat n ∧ (∀ j, j < n → cell.slots[j]? = some (.int (Int32.ofInt (f j)))) ∧ ((ty = 0 ∨ ty = 11) → ft = .int) ∧ (ty = 1 → ft = .boolean) ∧ (ty = 10 → ft = .byte) := by
  rcases h with ⟨h1, -, h3⟩ | h
  · rcases h1 with rfl | rfl
    · refine ⟨_, .int, h3, (ar_ty hU).1 n _, (fun q => by cases q), ?_, ?_, (fun j hj => arrV_read _ _ hj), (fun _ => rfl), (fun q => by omega), (fun q => by omega)⟩
      · exact Nat.le_of_eq (arrV_size _ _ _).symm
      · show (arrV _ _ _).slots.size.toInt32 = _
        rw [arrV_size]
    · refine ⟨_, .boolean, h3, (ar_ty hU).2.1 n _, (fun q => by cases q), ?_, ?_, (fun j hj => arrV_read _ _ hj), (fun q => by omega), (fun _ => rfl), (fun q => by omega)⟩
      · exact Nat.le_of_eq (arrV_size _ _ _).symm
      · show (arrV _ _ _).slots.size.toInt32 = _
        rw [arrV_size]
  · rcases h with ⟨rfl, cell, g1, g2, g3, g4, g5, g6, -⟩ | ⟨rfl, cell, g1, g2, g3, g4, g5, g6, -⟩
    · exact ⟨cell, .byte, g1, g2, g3, g4, g5, g6, (fun q => by omega), (fun q => by omega), (fun _ => rfl)⟩
    · exact ⟨cell, .int, g1, g2, g3, g4, g5, g6, (fun _ => rfl), (fun q => by omega), (fun q => by omega)⟩
theorem in_sz {i : Int} {n z : Nat} (hi : iR i) (h0 : 0 ≤ i) (h1 : i < n) (hz : n ≤ z) : ¬ (Int32.ofInt i < 0 ∨ z ≤ (Int32.ofInt i).toNatClampNeg) := i32in hi h0 (by omega)
theorem z_iald (hx : p.tables.exec = Jvm.exec) (hb : c.code = cc) (hU : KU E s) (hd : decode cc pc = .ok (.iaload, 1)) (hs : s_iald E.2.2.2 C Q (mmW E p l e R s m args below meth c Qf hf h0 nL) (pc + 1) L st h) : mmX E p l e R s m args below meth c Qf h0 nL pc L st h := by
  intro hg wl ws hn H locs ls hR hlo hls
  unfold s_iald at hs; split at hs
  · rename_i i a st'
    unfold xAld at hs; split at hs
    · rename_i ty n f hc
      obtain ⟨hty, g0, g1, hs⟩ := hs
      obtain ⟨hRc, hwf⟩ := hR.2.2 a _ hc
      have k := hs.2 hg wl (wfS_c (v := vI _) (hwf.2 _) (wfS_t (wfS_t ws))) hn H locs ls hR hlo hls
      obtain ⟨cell, ft, e1, e2, e3, e4, e5, e6, e7, -, -⟩ := rowI hU hRc
      have hft : ft = .int := e7 (by simpa using hty)
      subst hft
      refine W.iald (j := Int32.ofInt i) hx hb e1 e2 e3 (in_sz (wfS_h ws) g0 g1 e4) ?_ rfl rfl hd k
      rw [i32cl (wfS_h ws) g0]
      exact e6 _ (by omega)
    · exact hs.elim
  · exact hs.elim
theorem z_bald (hx : p.tables.exec = Jvm.exec) (hb : c.code = cc) (hU : KU E s) (hd : decode cc pc = .ok (.baload, 1)) (hs : s_bald E.2.2.2 C Q (mmW E p l e R s m args below meth c Qf hf h0 nL) (pc + 1) L st h) : mmX E p l e R s m args below meth c Qf h0 nL pc L st h := by
  intro hg wl ws hn H locs ls hR hlo hls
  unfold s_bald at hs; split at hs
  · rename_i i a st'
    unfold xAld at hs; split at hs
    · rename_i ty n f hc
      obtain ⟨hty, g0, g1, hs⟩ := hs
      obtain ⟨hRc, hwf⟩ := hR.2.2 a _ hc
      have k := hs.2 hg wl (wfS_c (v := vI _) (hwf.2 _) (wfS_t (wfS_t ws))) hn H locs ls hR hlo hls
      obtain ⟨cell, ft, e1, e2, e3, e4, e5, e6, -, e7, e8⟩ := rowI hU hRc
      have hv : cell.slots[(Int32.ofInt i).toNatClampNeg]? = some (.int (Int32.ofInt (f i.toNat))) := by
        rw [i32cl (wfS_h ws) g0]
        exact e6 _ (by omega)
      rcases (show ty = 1 ∨ ty = 10 by simpa using hty) with q | q
      · have := e7 q; subst this
        exact W.zald (j := Int32.ofInt i) hx hb e1 e2 e3 (in_sz (wfS_h ws) g0 g1 e4) hv rfl rfl hd k
      · have := e8 q; subst this
        exact W.bald (j := Int32.ofInt i) hx hb e1 e2 e3 (in_sz (wfS_h ws) g0 g1 e4) hv rfl rfl hd k
    · exact hs.elim
  · exact hs.elim
theorem z_aald (hx : p.tables.exec = Jvm.exec) (hb : c.code = cc) (hU : KU E s) (hd : decode cc pc = .ok (.aaload, 1)) (hs : s_aald E.2.2.2 C Q (mmW E p l e R s m args below meth c Qf hf h0 nL) (pc + 1) L st h) : mmX E p l e R s m args below meth c Qf h0 nL pc L st h := by
  intro hg wl ws hn H locs ls hR hlo hls
  unfold s_aald at hs; split at hs
  · rename_i i a st'
    unfold xRld at hs; split at hs
    · rename_i ty n f hc
      obtain ⟨hty, g0, g1, hs⟩ := hs
      obtain ⟨hRc, hwf⟩ := hR.2.2 a _ hc
      have k := hs.2 hg wl (wfS_c (v := vO _) trivial (wfS_t (wfS_t ws))) hn H locs ls hR hlo hls
      rcases hRc with ⟨-, -, hat⟩ | ⟨h1, -⟩
      · rw [List.map_cons, cV_o] at k
        refine W.aald (j := Int32.ofInt i) (ty := oA) hx hb hat ((ar_ty hU).2.2 n _) rfl (fun q => by cases q) ?_ ?_ rfl rfl hd k
        · show ¬ (_ ∨ (arrV _ _ _).slots.size ≤ _)
          rw [arrV_size]; exact i32in (wfS_h ws) g0 g1
        · show (arrV _ _ _).slots[_]? = _
          rw [i32cl (wfS_h ws) g0]
          exact arrV_read _ _ (show i.toNat < n by omega)
      · omega
    · exact hs.elim
  · exact hs.elim
theorem z_alen (hx : p.tables.exec = Jvm.exec) (hb : c.code = cc) (hU : KU E s) (hd : decode cc pc = .ok (.arraylength, 1)) (hs : s_alen E.2.2.2 C Q (mmW E p l e R s m args below meth c Qf hf h0 nL) (pc + 1) L st h) : mmX E p l e R s m args below meth c Qf h0 nL pc L st h := by
  intro hg wl ws hn H locs ls hR hlo hls
  unfold s_alen at hs; split at hs
  · rename_i a st'
    unfold xLen at hs; split at hs
    · rename_i ty n f hc
      obtain ⟨hRc, hwf⟩ := hR.2.2 a _ hc
      have k := hs.2 hg wl (wfS_c (v := vI n) ⟨by omega, by have := hwf.1; omega⟩ (wfS_t ws)) hn H locs ls hR hlo hls
      obtain ⟨cell, ft, e1, e2, e3, e4, e5, -⟩ := rowI hU hRc
      refine W.alen (n := Int32.ofInt n) hx hb e1 e2 ?_ rfl rfl hd k
      rw [e5, i32nat]
    · rename_i ty n f hc
      obtain ⟨hRc, hwf⟩ := hR.2.2 a _ hc
      have k := hs.2 hg wl (wfS_c (v := vI n) ⟨by omega, by have h2 : n < 2147483648 := hwf; omega⟩ (wfS_t ws)) hn H locs ls hR hlo hls
      rcases hRc with ⟨-, -, hat⟩ | ⟨h1, cell, e1, e2, -, -, e5, -⟩
      · refine W.alen (n := Int32.ofInt n) hx hb hat ((ar_ty hU).2.2 n _) ?_ rfl rfl hd k
        show (arrV _ _ _).slots.size.toInt32 = _
        rw [arrV_size, i32nat]
      · refine W.alen (n := Int32.ofInt n) hx hb e1 e2 ?_ rfl rfl hd k
        rw [e5, i32nat]
    · exact hs.elim
  · exact hs.elim
end ZH
