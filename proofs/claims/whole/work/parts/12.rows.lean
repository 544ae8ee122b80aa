/-! rows: what the small machine does at an instruction, the machine does -/
def mmB (hf h : MH) : Prop := h.1 ≤ hf.1 ∧ h.2.1 ≤ hf.2.1
section MMX
variable (E : ME) (p : Program) (l : Launch) (e : Env) (R : Room) (s : State) (m : MethodId) (args : Array Value) (below : List Frame) (meth : Method) (c : Code) (Qf : State → Prop) (hf h0 : MH) (nL : Nat)
/-- the machine goes on from where the small machine stands, and comes to Qf -/
def mmX : KP := fun pc L st h => (h0.1 ≤ h.1 ∧ h0.2.1 ≤ h.2.1) → wfL L → wfS st → L.length = nL → ∀ (H : Heap) (locs : List Loc) (ls : Array Slot), mmR E s h H → (∀ q ∈ locs, eB E ≤ q.base) → lv_has ls nL (lasc L 0) → W p l e R s m args below meth c H locs (h.1 - h0.1) (h.2.1 - h0.2.1) Qf (F0 m pc ls (st.map cV))
def mmW : KP := fun pc L st h => mmB hf h ∧ mmX E p l e R s m args below meth c Qf h0 nL pc L st h
end MMX
section ZR
variable {E : ME} {p : Program} {l : Launch} {e : Env} {R : Room} {s : State} {m : MethodId} {args : Array Value} {below : List Frame} {meth : Method} {c : Code} {Qf : State → Prop} {hf h0 : MH} {nL : Nat}
variable {cc : ByteArray} {pc nx : Nat} {L : Loc'} {st : List V} {h : MH} {G : MG} {C : KC} {Q : KQ}
theorem z_iconst (hx : p.tables.exec = Jvm.exec) (hb : c.code = cc) {n : Int} (hd : decode cc pc = .ok (.iconst n, 1)) (hs : s_cst G C Q (mmW E p l e R s m args below meth c Qf hf h0 nL) (pc + 1) (Int32.ofInt n).toInt L st h) : mmX E p l e R s m args below meth c Qf h0 nL pc L st h := by
  intro hg wl ws hn H locs ls hR hlo hls
  have k := hs.2 hg wl (wfS_c (i32r _) ws) hn H locs ls hR hlo hls
  exact lv_iconst hx hb hd (Int32.ofInt_toInt _).symm k
theorem z_bipush (hx : p.tables.exec = Jvm.exec) (hb : c.code = cc) {n : Int} (hd : decode cc pc = .ok (.bipush n, 2)) (hs : s_cst G C Q (mmW E p l e R s m args below meth c Qf hf h0 nL) (pc + 2) (Int8.ofInt n).toInt32.toInt L st h) : mmX E p l e R s m args below meth c Qf h0 nL pc L st h := by
  intro hg wl ws hn H locs ls hR hlo hls
  have k := hs.2 hg wl (wfS_c (i32r _) ws) hn H locs ls hR hlo hls
  exact lv_bipush hx hb hd (Int32.ofInt_toInt _).symm k
theorem z_sipush (hx : p.tables.exec = Jvm.exec) (hb : c.code = cc) {n : Int} (hd : decode cc pc = .ok (.sipush n, 3)) (hs : s_cst G C Q (mmW E p l e R s m args below meth c Qf hf h0 nL) (pc + 3) (Int16.ofInt n).toInt32.toInt L st h) : mmX E p l e R s m args below meth c Qf h0 nL pc L st h := by
  intro hg wl ws hn H locs ls hR hlo hls
  have k := hs.2 hg wl (wfS_c (i32r _) ws) hn H locs ls hR hlo hls
  exact lv_sipush hx hb hd (Int32.ofInt_toInt _).symm k
theorem z_ldc (hx : p.tables.exec = Jvm.exec) (hb : c.code = cc) {ix : Nat} {own : String} {v : Int} (hv : iR v) (hown : s.vm.findClass own = some m.cls) (hco : (Jvm.Cond.constant own ix (Int32.ofInt v)).before args s = true) (hd : decode cc pc = .ok (.ldc ix, 2)) (hs : s_cst G C Q (mmW E p l e R s m args below meth c Qf hf h0 nL) (pc + 2) v L st h) : mmX E p l e R s m args below meth c Qf h0 nL pc L st h := by
  intro hg wl ws hn H locs ls hR hlo hls
  have k := hs.2 hg wl (wfS_c (v := vI v) hv ws) hn H locs ls hR hlo hls
  exact lv_ldc hx hb hown hco hd k
theorem z_ldcw (hx : p.tables.exec = Jvm.exec) (hb : c.code = cc) {ix : Nat} {own : String} {v : Int} (hv : iR v) (hown : s.vm.findClass own = some m.cls) (hco : (Jvm.Cond.constant own ix (Int32.ofInt v)).before args s = true) (hd : decode cc pc = .ok (.ldc_w ix, 3)) (hs : s_cst G C Q (mmW E p l e R s m args below meth c Qf hf h0 nL) (pc + 3) v L st h) : mmX E p l e R s m args below meth c Qf h0 nL pc L st h := by
  intro hg wl ws hn H locs ls hR hlo hls
  have k := hs.2 hg wl (wfS_c (v := vI v) hv ws) hn H locs ls hR hlo hls
  exact lv_ldcw hx hb hown hco hd k
theorem z_ldc2 (hx : p.tables.exec = Jvm.exec) (hb : c.code = cc) {ix : Nat} {own : String} {v : Int} (hv : lR v) (hown : s.vm.findClass own = some m.cls) (hco : (Jvm.Cond.constantLong own ix (Int64.ofInt v)).before args s = true) (hd : decode cc pc = .ok (.ldc2_w ix, 3)) (hs : s_lcst G C Q (mmW E p l e R s m args below meth c Qf hf h0 nL) (pc + 3) v L st h) : mmX E p l e R s m args below meth c Qf h0 nL pc L st h := by
  intro hg wl ws hn H locs ls hR hlo hls
  have k := hs.2 hg wl (wfS_c (v := vL v) hv ws) hn H locs ls hR hlo hls
  exact lv_ldc2 hx hb hown hco hd k
theorem z_lconst (hx : p.tables.exec = Jvm.exec) (hb : c.code = cc) {n : Fin 2} (hd : decode cc pc = .ok (.lconst n, 1)) (hs : s_lcst G C Q (mmW E p l e R s m args below meth c Qf hf h0 nL) (pc + 1) (n.val : Int) L st h) : mmX E p l e R s m args below meth c Qf h0 nL pc L st h := by
  intro hg wl ws hn H locs ls hR hlo hls
  have k := hs.2 hg wl (wfS_c (v := vL (n.val : Int)) ⟨by omega, by omega⟩ ws) hn H locs ls hR hlo hls
  exact lv_lconst hx hb hd (by first | rfl | simp | (rcases n with ⟨_ | _ | n, hn⟩ <;> first | rfl | omega)) k
theorem z_nul (hx : p.tables.exec = Jvm.exec) (hb : c.code = cc) (hd : decode cc pc = .ok (.aconst_null, 1)) (hs : s_nul G C Q (mmW E p l e R s m args below meth c Qf hf h0 nL) (pc + 1) L st h) : mmX E p l e R s m args below meth c Qf h0 nL pc L st h := by
  intro hg wl ws hn H locs ls hR hlo hls
  have k := hs.2 hg wl (wfS_c (v := vN) trivial ws) hn H locs ls hR hlo hls
  exact lv_null hx hb hd k
theorem z_iload_n (hx : p.tables.exec = Jvm.exec) (hb : c.code = cc) {k : Fin 4} (hd : decode cc pc = .ok (.iload_n k, 1)) (hs : s_ldi G C Q (mmW E p l e R s m args below meth c Qf hf h0 nL) (pc + 1) k.val L st h) : mmX E p l e R s m args below meth c Qf h0 nL pc L st h := by
  intro hg wl ws hn H locs ls hR hlo hls
  unfold s_ldi at hs; split at hs
  · rename_i x hL
    have k2 := hs.2 hg wl (wfS_c (v := vI x) (wl _ _ hL) ws) hn H locs ls hR hlo hls
    exact lv_iload_n hx hb hd rfl (ls_get hls hL) k2
  · exact hs.elim
theorem z_iload (hx : p.tables.exec = Jvm.exec) (hb : c.code = cc) {k : Nat} (hd : decode cc pc = .ok (.iload k, 2)) (hs : s_ldi G C Q (mmW E p l e R s m args below meth c Qf hf h0 nL) (pc + 2) k L st h) : mmX E p l e R s m args below meth c Qf h0 nL pc L st h := by
  intro hg wl ws hn H locs ls hR hlo hls
  unfold s_ldi at hs; split at hs
  · rename_i x hL
    have k2 := hs.2 hg wl (wfS_c (v := vI x) (wl _ _ hL) ws) hn H locs ls hR hlo hls
    exact lv_iload hx hb hd (ls_get hls hL) k2
  · exact hs.elim
theorem z_lload_n (hx : p.tables.exec = Jvm.exec) (hb : c.code = cc) {k : Fin 4} (hd : decode cc pc = .ok (.lload_n k, 1)) (hs : s_ldl G C Q (mmW E p l e R s m args below meth c Qf hf h0 nL) (pc + 1) k.val L st h) : mmX E p l e R s m args below meth c Qf h0 nL pc L st h := by
  intro hg wl ws hn H locs ls hR hlo hls
  unfold s_ldl at hs; split at hs
  · rename_i x hL
    have k2 := hs.2 hg wl (wfS_c (v := vL x) (wl _ _ hL) ws) hn H locs ls hR hlo hls
    exact lv_lload_n hx hb hd rfl (ls_get hls hL) k2
  · exact hs.elim
theorem z_lload (hx : p.tables.exec = Jvm.exec) (hb : c.code = cc) {k : Nat} (hd : decode cc pc = .ok (.lload k, 2)) (hs : s_ldl G C Q (mmW E p l e R s m args below meth c Qf hf h0 nL) (pc + 2) k L st h) : mmX E p l e R s m args below meth c Qf h0 nL pc L st h := by
  intro hg wl ws hn H locs ls hR hlo hls
  unfold s_ldl at hs; split at hs
  · rename_i x hL
    have k2 := hs.2 hg wl (wfS_c (v := vL x) (wl _ _ hL) ws) hn H locs ls hR hlo hls
    exact lv_lload hx hb hd (ls_get hls hL) k2
  · exact hs.elim
theorem z_aload_n (hx : p.tables.exec = Jvm.exec) (hb : c.code = cc) {k : Fin 4} (hd : decode cc pc = .ok (.aload_n k, 1)) (hs : s_ldr G C Q (mmW E p l e R s m args below meth c Qf hf h0 nL) (pc + 1) k.val L st h) : mmX E p l e R s m args below meth c Qf h0 nL pc L st h := by
  intro hg wl ws hn H locs ls hR hlo hls
  unfold s_ldr at hs; split at hs
  · rename_i r hL
    have k2 := hs.2 hg wl (wfS_c (v := vO r) trivial ws) hn H locs ls hR hlo hls
    cases r with
    | none => exact lv_aload_nN hx hb hd rfl (ls_get hls hL) k2
    | some a => exact lv_aload_n hx hb hd rfl (ls_get hls hL) k2
  · exact hs.elim
theorem z_aload (hx : p.tables.exec = Jvm.exec) (hb : c.code = cc) {k : Nat} (hd : decode cc pc = .ok (.aload k, 2)) (hs : s_ldr G C Q (mmW E p l e R s m args below meth c Qf hf h0 nL) (pc + 2) k L st h) : mmX E p l e R s m args below meth c Qf h0 nL pc L st h := by
  intro hg wl ws hn H locs ls hR hlo hls
  unfold s_ldr at hs; split at hs
  · rename_i r hL
    have k2 := hs.2 hg wl (wfS_c (v := vO r) trivial ws) hn H locs ls hR hlo hls
    cases r with
    | none => exact lv_aloadN hx hb hd (ls_get hls hL) k2
    | some a => exact lv_aload hx hb hd (ls_get hls hL) k2
  · exact hs.elim
theorem z_istore_n (hx : p.tables.exec = Jvm.exec) (hb : c.code = cc) {k : Fin 4} (hd : decode cc pc = .ok (.istore_n k, 1)) (hs : s_sti G C Q (mmW E p l e R s m args below meth c Qf hf h0 nL) (pc + 1) k.val L st h) : mmX E p l e R s m args below meth c Qf h0 nL pc L st h := by
  intro hg wl ws hn H locs ls hR hlo hls
  unfold s_sti at hs; split at hs
  · rename_i x st'
    obtain ⟨⟨g1, g2, -⟩, hs⟩ := hs
    refine lv_istore_n hx hb hd rfl hls (by omega) rfl (fun ls' hl' => ?_)
    exact hs.2 hg (wfL_set wl (wfS_h ws)) (wfS_t ws) (by simpa using hn) H locs ls' hR hlo (ls_set (v := vI x) g1 g2 hl')
  · exact hs.elim
theorem z_istore (hx : p.tables.exec = Jvm.exec) (hb : c.code = cc) {k : Nat} (hd : decode cc pc = .ok (.istore k, 2)) (hs : s_sti G C Q (mmW E p l e R s m args below meth c Qf hf h0 nL) (pc + 2) k L st h) : mmX E p l e R s m args below meth c Qf h0 nL pc L st h := by
  intro hg wl ws hn H locs ls hR hlo hls
  unfold s_sti at hs; split at hs
  · rename_i x st'
    obtain ⟨⟨g1, g2, -⟩, hs⟩ := hs
    refine lv_istore hx hb hd hls (by omega) rfl (fun ls' hl' => ?_)
    exact hs.2 hg (wfL_set wl (wfS_h ws)) (wfS_t ws) (by simpa using hn) H locs ls' hR hlo (ls_set (v := vI x) g1 g2 hl')
  · exact hs.elim
theorem z_lstore_n (hx : p.tables.exec = Jvm.exec) (hb : c.code = cc) {k : Fin 4} (hd : decode cc pc = .ok (.lstore_n k, 1)) (hs : s_stl G C Q (mmW E p l e R s m args below meth c Qf hf h0 nL) (pc + 1) k.val L st h) : mmX E p l e R s m args below meth c Qf h0 nL pc L st h := by
  intro hg wl ws hn H locs ls hR hlo hls
  unfold s_stl at hs; split at hs
  · rename_i x st'
    obtain ⟨⟨g1, g2, -⟩, hs⟩ := hs
    refine lv_lstore_n hx hb hd rfl hls (by omega) rfl (fun ls' hl' => ?_)
    exact hs.2 hg (wfL_setN (wfL_set wl (wfS_h ws))) (wfS_t ws) (by simpa using hn) H locs ls' hR hlo (ls_setL (x := x) g1 g2 hl')
  · exact hs.elim
theorem z_lstore (hx : p.tables.exec = Jvm.exec) (hb : c.code = cc) {k : Nat} (hd : decode cc pc = .ok (.lstore k, 2)) (hs : s_stl G C Q (mmW E p l e R s m args below meth c Qf hf h0 nL) (pc + 2) k L st h) : mmX E p l e R s m args below meth c Qf h0 nL pc L st h := by
  intro hg wl ws hn H locs ls hR hlo hls
  unfold s_stl at hs; split at hs
  · rename_i x st'
    obtain ⟨⟨g1, g2, -⟩, hs⟩ := hs
    refine lv_lstore hx hb hd hls (by omega) rfl (fun ls' hl' => ?_)
    exact hs.2 hg (wfL_setN (wfL_set wl (wfS_h ws))) (wfS_t ws) (by simpa using hn) H locs ls' hR hlo (ls_setL (x := x) g1 g2 hl')
  · exact hs.elim
theorem z_astore_n (hx : p.tables.exec = Jvm.exec) (hb : c.code = cc) {k : Fin 4} (hd : decode cc pc = .ok (.astore_n k, 1)) (hs : s_str G C Q (mmW E p l e R s m args below meth c Qf hf h0 nL) (pc + 1) k.val L st h) : mmX E p l e R s m args below meth c Qf h0 nL pc L st h := by
  intro hg wl ws hn H locs ls hR hlo hls
  unfold s_str at hs; split at hs
  · rename_i r st'
    obtain ⟨⟨g1, g2, -⟩, hs⟩ := hs
    cases r with
    | none =>
      refine lv_astore_nN hx hb hd rfl hls (by omega) rfl (fun ls' hl' => ?_)
      exact hs.2 hg (wfL_set wl (wfS_h ws)) (wfS_t ws) (by simpa using hn) H locs ls' hR hlo (ls_set (v := vO none) g1 g2 hl')
    | some a =>
      refine lv_astore_n hx hb hd rfl hls (by omega) rfl (fun ls' hl' => ?_)
      exact hs.2 hg (wfL_set wl (wfS_h ws)) (wfS_t ws) (by simpa using hn) H locs ls' hR hlo (ls_set (v := vO (some a)) g1 g2 hl')
  · exact hs.elim
theorem z_astore (hx : p.tables.exec = Jvm.exec) (hb : c.code = cc) {k : Nat} (hd : decode cc pc = .ok (.astore k, 2)) (hs : s_str G C Q (mmW E p l e R s m args below meth c Qf hf h0 nL) (pc + 2) k L st h) : mmX E p l e R s m args below meth c Qf h0 nL pc L st h := by
  intro hg wl ws hn H locs ls hR hlo hls
  unfold s_str at hs; split at hs
  · rename_i r st'
    obtain ⟨⟨g1, g2, -⟩, hs⟩ := hs
    cases r with
    | none =>
      refine lv_astoreN hx hb hd hls (by omega) rfl (fun ls' hl' => ?_)
      exact hs.2 hg (wfL_set wl (wfS_h ws)) (wfS_t ws) (by simpa using hn) H locs ls' hR hlo (ls_set (v := vO none) g1 g2 hl')
    | some a =>
      refine lv_astore hx hb hd hls (by omega) rfl (fun ls' hl' => ?_)
      exact hs.2 hg (wfL_set wl (wfS_h ws)) (wfS_t ws) (by simpa using hn) H locs ls' hR hlo (ls_set (v := vO (some a)) g1 g2 hl')
  · exact hs.elim
theorem z_iinc (hx : p.tables.exec = Jvm.exec) (hb : c.code = cc) {i : Nat} {n : Int} (hd : decode cc pc = .ok (.iinc i n, 3)) (hs : s_iinc G C Q (mmW E p l e R s m args below meth c Qf hf h0 nL) (pc + 3) i (Int32.ofInt n).toInt L st h) : mmX E p l e R s m args below meth c Qf h0 nL pc L st h := by
  intro hg wl ws hn H locs ls hR hlo hls
  unfold s_iinc at hs; split at hs
  · rename_i x hL
    obtain ⟨g2, hs⟩ := hs
    have g1 : i < L.length := (List.getElem?_eq_some_iff.mp hL).1
    obtain ⟨q, hq⟩ := List.getElem?_of_mem (mem_lasc.mpr ⟨i, vI x, hL, rfl⟩ : (0 + i, cV (vI x)) ∈ lasc L 0)
    rw [Nat.zero_add] at hq
    refine lv_iinc (v := Int32.ofInt (iBin 0 x (Int32.ofInt n).toInt)) hx hb hd hls hq ?_ (by omega) rfl (fun ls' hl' => ?_)
    · show _ = Int32.ofInt (Int32.ofInt x + Int32.ofInt (Int32.ofInt n).toInt).toInt
      rw [Int32.ofInt_toInt, Int32.ofInt_toInt]
    exact hs.2 hg (wfL_set wl (i32r _)) ws (by simpa using hn) H locs ls' hR hlo (ls_set (v := vI (iBin 0 x (Int32.ofInt n).toInt)) g1 g2 hl')
  · exact hs.elim
theorem z_iadd (hx : p.tables.exec = Jvm.exec) (hb : c.code = cc) (hd : decode cc pc = .ok (.iadd, 1)) (hs : s_bin G C Q (mmW E p l e R s m args below meth c Qf hf h0 nL) (pc + 1) 0 L st h) : mmX E p l e R s m args below meth c Qf h0 nL pc L st h := by
  intro hg wl ws hn H locs ls hR hlo hls
  unfold s_bin at hs; split at hs
  · rename_i b a st'
    skip
    have k := hs.2 hg wl (wfS_c (v := vI _) (i32r _) (wfS_t (wfS_t ws))) hn H locs ls hR hlo hls
    have eq : cV (vI (iBin 0 a b)) = .int (Int32.ofInt a + Int32.ofInt b) := congrArg _ (Int32.ofInt_toInt _)
    rw [List.map_cons, eq] at k
    exact lv_iadd hx hb hd k
  · exact hs.elim
theorem z_isub (hx : p.tables.exec = Jvm.exec) (hb : c.code = cc) (hd : decode cc pc = .ok (.isub, 1)) (hs : s_bin G C Q (mmW E p l e R s m args below meth c Qf hf h0 nL) (pc + 1) 1 L st h) : mmX E p l e R s m args below meth c Qf h0 nL pc L st h := by
  intro hg wl ws hn H locs ls hR hlo hls
  unfold s_bin at hs; split at hs
  · rename_i b a st'
    skip
    have k := hs.2 hg wl (wfS_c (v := vI _) (i32r _) (wfS_t (wfS_t ws))) hn H locs ls hR hlo hls
    have eq : cV (vI (iBin 1 a b)) = .int (Int32.ofInt a - Int32.ofInt b) := congrArg _ (Int32.ofInt_toInt _)
    rw [List.map_cons, eq] at k
    exact lv_isub hx hb hd k
  · exact hs.elim
theorem z_imul (hx : p.tables.exec = Jvm.exec) (hb : c.code = cc) (hd : decode cc pc = .ok (.imul, 1)) (hs : s_bin G C Q (mmW E p l e R s m args below meth c Qf hf h0 nL) (pc + 1) 2 L st h) : mmX E p l e R s m args below meth c Qf h0 nL pc L st h := by
  intro hg wl ws hn H locs ls hR hlo hls
  unfold s_bin at hs; split at hs
  · rename_i b a st'
    skip
    have k := hs.2 hg wl (wfS_c (v := vI _) (i32r _) (wfS_t (wfS_t ws))) hn H locs ls hR hlo hls
    have eq : cV (vI (iBin 2 a b)) = .int (Int32.ofInt a * Int32.ofInt b) := congrArg _ (Int32.ofInt_toInt _)
    rw [List.map_cons, eq] at k
    exact lv_imul hx hb hd k
  · exact hs.elim
theorem z_iand (hx : p.tables.exec = Jvm.exec) (hb : c.code = cc) (hd : decode cc pc = .ok (.iand, 1)) (hs : s_bin G C Q (mmW E p l e R s m args below meth c Qf hf h0 nL) (pc + 1) 3 L st h) : mmX E p l e R s m args below meth c Qf h0 nL pc L st h := by
  intro hg wl ws hn H locs ls hR hlo hls
  unfold s_bin at hs; split at hs
  · rename_i b a st'
    skip
    have k := hs.2 hg wl (wfS_c (v := vI _) (i32r _) (wfS_t (wfS_t ws))) hn H locs ls hR hlo hls
    have eq : cV (vI (iBin 3 a b)) = .int (Int32.ofInt a &&& Int32.ofInt b) := congrArg _ (Int32.ofInt_toInt _)
    rw [List.map_cons, eq] at k
    exact lv_iand hx hb hd k
  · exact hs.elim
theorem z_ior (hx : p.tables.exec = Jvm.exec) (hb : c.code = cc) (hd : decode cc pc = .ok (.ior, 1)) (hs : s_bin G C Q (mmW E p l e R s m args below meth c Qf hf h0 nL) (pc + 1) 4 L st h) : mmX E p l e R s m args below meth c Qf h0 nL pc L st h := by
  intro hg wl ws hn H locs ls hR hlo hls
  unfold s_bin at hs; split at hs
  · rename_i b a st'
    skip
    have k := hs.2 hg wl (wfS_c (v := vI _) (i32r _) (wfS_t (wfS_t ws))) hn H locs ls hR hlo hls
    have eq : cV (vI (iBin 4 a b)) = .int (Int32.ofInt a ||| Int32.ofInt b) := congrArg _ (Int32.ofInt_toInt _)
    rw [List.map_cons, eq] at k
    exact lv_ior hx hb hd k
  · exact hs.elim
theorem z_ixor (hx : p.tables.exec = Jvm.exec) (hb : c.code = cc) (hd : decode cc pc = .ok (.ixor, 1)) (hs : s_bin G C Q (mmW E p l e R s m args below meth c Qf hf h0 nL) (pc + 1) 5 L st h) : mmX E p l e R s m args below meth c Qf h0 nL pc L st h := by
  intro hg wl ws hn H locs ls hR hlo hls
  unfold s_bin at hs; split at hs
  · rename_i b a st'
    skip
    have k := hs.2 hg wl (wfS_c (v := vI _) (i32r _) (wfS_t (wfS_t ws))) hn H locs ls hR hlo hls
    have eq : cV (vI (iBin 5 a b)) = .int (Int32.ofInt a ^^^ Int32.ofInt b) := congrArg _ (Int32.ofInt_toInt _)
    rw [List.map_cons, eq] at k
    exact lv_ixor hx hb hd k
  · exact hs.elim
theorem z_ishl (hx : p.tables.exec = Jvm.exec) (hb : c.code = cc) (hd : decode cc pc = .ok (.ishl, 1)) (hs : s_bin G C Q (mmW E p l e R s m args below meth c Qf hf h0 nL) (pc + 1) 6 L st h) : mmX E p l e R s m args below meth c Qf h0 nL pc L st h := by
  intro hg wl ws hn H locs ls hR hlo hls
  unfold s_bin at hs; split at hs
  · rename_i b a st'
    skip
    have k := hs.2 hg wl (wfS_c (v := vI _) (i32r _) (wfS_t (wfS_t ws))) hn H locs ls hR hlo hls
    have eq : cV (vI (iBin 6 a b)) = .int (Int32.ofInt a <<< (Int32.ofInt b &&& 31)) := congrArg _ (Int32.ofInt_toInt _)
    rw [List.map_cons, eq] at k
    exact lv_ishl hx hb hd k
  · exact hs.elim
theorem z_ishr (hx : p.tables.exec = Jvm.exec) (hb : c.code = cc) (hd : decode cc pc = .ok (.ishr, 1)) (hs : s_bin G C Q (mmW E p l e R s m args below meth c Qf hf h0 nL) (pc + 1) 7 L st h) : mmX E p l e R s m args below meth c Qf h0 nL pc L st h := by
  intro hg wl ws hn H locs ls hR hlo hls
  unfold s_bin at hs; split at hs
  · rename_i b a st'
    skip
    have k := hs.2 hg wl (wfS_c (v := vI _) (i32r _) (wfS_t (wfS_t ws))) hn H locs ls hR hlo hls
    have eq : cV (vI (iBin 7 a b)) = .int (Int32.ofInt a >>> (Int32.ofInt b &&& 31)) := congrArg _ (Int32.ofInt_toInt _)
    rw [List.map_cons, eq] at k
    exact lv_ishr hx hb hd k
  · exact hs.elim
theorem z_iushr (hx : p.tables.exec = Jvm.exec) (hb : c.code = cc) (hd : decode cc pc = .ok (.iushr, 1)) (hs : s_bin G C Q (mmW E p l e R s m args below meth c Qf hf h0 nL) (pc + 1) 8 L st h) : mmX E p l e R s m args below meth c Qf h0 nL pc L st h := by
  intro hg wl ws hn H locs ls hR hlo hls
  unfold s_bin at hs; split at hs
  · rename_i b a st'
    skip
    have k := hs.2 hg wl (wfS_c (v := vI _) (i32r _) (wfS_t (wfS_t ws))) hn H locs ls hR hlo hls
    have eq : cV (vI (iBin 8 a b)) = .int (((Int32.ofInt a).toUInt32 >>> ((Int32.ofInt b).toUInt32 &&& Int32.toUInt32 31)).toInt32) := congrArg _ (Int32.ofInt_toInt _)
    rw [List.map_cons, eq] at k
    exact lv_iushr hx hb hd rfl k
  · exact hs.elim
theorem z_idiv (hx : p.tables.exec = Jvm.exec) (hb : c.code = cc) (hd : decode cc pc = .ok (.idiv, 1)) (hs : s_idiv G C Q (mmW E p l e R s m args below meth c Qf hf h0 nL) (pc + 1) L st h) : mmX E p l e R s m args below meth c Qf h0 nL pc L st h := by
  intro hg wl ws hn H locs ls hR hlo hls
  unfold s_idiv at hs; split at hs
  · rename_i b a st'
    obtain ⟨hne, hs⟩ := hs
    have k := hs.2 hg wl (wfS_c (v := vI _) (i32r _) (wfS_t (wfS_t ws))) hn H locs ls hR hlo hls
    have eq : cV (vI (iDiv a b)) = .int (Int32.ofInt a / Int32.ofInt b) := congrArg _ (Int32.ofInt_toInt _)
    rw [List.map_cons, eq] at k
    exact lv_idiv hx hb hd (fun q => hne (by have := congrArg Int32.toInt q; rw [i32i (wfS_h ws)] at this; simpa using this)) k
  · exact hs.elim
theorem z_irem (hx : p.tables.exec = Jvm.exec) (hb : c.code = cc) (hd : decode cc pc = .ok (.irem, 1)) (hs : s_irem G C Q (mmW E p l e R s m args below meth c Qf hf h0 nL) (pc + 1) L st h) : mmX E p l e R s m args below meth c Qf h0 nL pc L st h := by
  intro hg wl ws hn H locs ls hR hlo hls
  unfold s_irem at hs; split at hs
  · rename_i b a st'
    obtain ⟨hne, hs⟩ := hs
    have k := hs.2 hg wl (wfS_c (v := vI _) (i32r _) (wfS_t (wfS_t ws))) hn H locs ls hR hlo hls
    have eq : cV (vI (iRem a b)) = .int (Int32.ofInt a - Int32.ofInt a / Int32.ofInt b * Int32.ofInt b) := congrArg _ (Int32.ofInt_toInt _)
    rw [List.map_cons, eq] at k
    exact lv_irem hx hb hd (fun q => hne (by have := congrArg Int32.toInt q; rw [i32i (wfS_h ws)] at this; simpa using this)) k
  · exact hs.elim
theorem z_ladd (hx : p.tables.exec = Jvm.exec) (hb : c.code = cc) (hd : decode cc pc = .ok (.ladd, 1)) (hs : s_ladd G C Q (mmW E p l e R s m args below meth c Qf hf h0 nL) (pc + 1) L st h) : mmX E p l e R s m args below meth c Qf h0 nL pc L st h := by
  intro hg wl ws hn H locs ls hR hlo hls
  unfold s_ladd at hs; split at hs
  · rename_i b a st'
    skip
    have k := hs.2 hg wl (wfS_c (v := vL _) (i64r _) (wfS_t (wfS_t ws))) hn H locs ls hR hlo hls
    have eq : cV (vL (lAdd a b)) = .long (Int64.ofInt a + Int64.ofInt b) := congrArg _ (Int64.ofInt_toInt _)
    rw [List.map_cons, eq] at k
    exact lv_ladd hx hb hd k
  · exact hs.elim
theorem z_ldiv (hx : p.tables.exec = Jvm.exec) (hb : c.code = cc) (hd : decode cc pc = .ok (.ldiv, 1)) (hs : s_ldiv G C Q (mmW E p l e R s m args below meth c Qf hf h0 nL) (pc + 1) L st h) : mmX E p l e R s m args below meth c Qf h0 nL pc L st h := by
  intro hg wl ws hn H locs ls hR hlo hls
  unfold s_ldiv at hs; split at hs
  · rename_i b a st'
    obtain ⟨hne, hs⟩ := hs
    have k := hs.2 hg wl (wfS_c (v := vL _) (i64r _) (wfS_t (wfS_t ws))) hn H locs ls hR hlo hls
    have eq : cV (vL (lDiv a b)) = .long (Int64.ofInt a / Int64.ofInt b) := congrArg _ (Int64.ofInt_toInt _)
    rw [List.map_cons, eq] at k
    exact lv_ldiv hx hb hd (fun q => hne (by have := congrArg Int64.toInt q; rw [i64i (wfS_h ws)] at this; simpa using this)) k
  · exact hs.elim
theorem z_lrem (hx : p.tables.exec = Jvm.exec) (hb : c.code = cc) (hd : decode cc pc = .ok (.lrem, 1)) (hs : s_lrem G C Q (mmW E p l e R s m args below meth c Qf hf h0 nL) (pc + 1) L st h) : mmX E p l e R s m args below meth c Qf h0 nL pc L st h := by
  intro hg wl ws hn H locs ls hR hlo hls
  unfold s_lrem at hs; split at hs
  · rename_i b a st'
    obtain ⟨hne, hs⟩ := hs
    have k := hs.2 hg wl (wfS_c (v := vL _) (i64r _) (wfS_t (wfS_t ws))) hn H locs ls hR hlo hls
    have eq : cV (vL (lRem a b)) = .long (Int64.ofInt a - Int64.ofInt a / Int64.ofInt b * Int64.ofInt b) := congrArg _ (Int64.ofInt_toInt _)
    rw [List.map_cons, eq] at k
    exact lv_lrem hx hb hd (fun q => hne (by have := congrArg Int64.toInt q; rw [i64i (wfS_h ws)] at this; simpa using this)) k
  · exact hs.elim
theorem z_ineg (hx : p.tables.exec = Jvm.exec) (hb : c.code = cc) (hd : decode cc pc = .ok (.ineg, 1)) (hs : s_ineg G C Q (mmW E p l e R s m args below meth c Qf hf h0 nL) (pc + 1) L st h) : mmX E p l e R s m args below meth c Qf h0 nL pc L st h := by
  intro hg wl ws hn H locs ls hR hlo hls
  unfold s_ineg at hs; split at hs
  · rename_i a st'
    have k := hs.2 hg wl (wfS_c (v := vI _) (i32r _) (wfS_t ws)) hn H locs ls hR hlo hls
    have eq : cV (vI (iNeg a)) = .int (-(Int32.ofInt a)) := congrArg _ (Int32.ofInt_toInt _)
    rw [List.map_cons, eq] at k
    exact lv_ineg hx hb hd k
  · exact hs.elim
theorem z_i2c (hx : p.tables.exec = Jvm.exec) (hb : c.code = cc) (hd : decode cc pc = .ok (.i2c, 1)) (hs : s_i2c G C Q (mmW E p l e R s m args below meth c Qf hf h0 nL) (pc + 1) L st h) : mmX E p l e R s m args below meth c Qf h0 nL pc L st h := by
  intro hg wl ws hn H locs ls hR hlo hls
  unfold s_i2c at hs; split at hs
  · rename_i a st'
    have k := hs.2 hg wl (wfS_c (v := vI _) (i32r _) (wfS_t ws)) hn H locs ls hR hlo hls
    have eq : cV (vI (i2cF a)) = .int (((Int32.ofInt a).toUInt32 % 65536).toInt32) := congrArg _ (Int32.ofInt_toInt _)
    rw [List.map_cons, eq] at k
    exact lv_i2c hx hb hd rfl k
  · exact hs.elim
theorem z_i2b (hx : p.tables.exec = Jvm.exec) (hb : c.code = cc) (hd : decode cc pc = .ok (.i2b, 1)) (hs : s_i2b G C Q (mmW E p l e R s m args below meth c Qf hf h0 nL) (pc + 1) L st h) : mmX E p l e R s m args below meth c Qf h0 nL pc L st h := by
  intro hg wl ws hn H locs ls hR hlo hls
  unfold s_i2b at hs; split at hs
  · rename_i a st'
    have k := hs.2 hg wl (wfS_c (v := vI _) (i32r _) (wfS_t ws)) hn H locs ls hR hlo hls
    have eq : cV (vI (i2bF a)) = .int ((Int32.ofInt a).toInt8.toInt32) := congrArg _ (Int32.ofInt_toInt _)
    rw [List.map_cons, eq] at k
    exact lv_i2b hx hb hd rfl k
  · exact hs.elim
theorem z_lneg (hx : p.tables.exec = Jvm.exec) (hb : c.code = cc) (hd : decode cc pc = .ok (.lneg, 1)) (hs : s_lneg G C Q (mmW E p l e R s m args below meth c Qf hf h0 nL) (pc + 1) L st h) : mmX E p l e R s m args below meth c Qf h0 nL pc L st h := by
  intro hg wl ws hn H locs ls hR hlo hls
  unfold s_lneg at hs; split at hs
  · rename_i a st'
    have k := hs.2 hg wl (wfS_c (v := vL _) (i64r _) (wfS_t ws)) hn H locs ls hR hlo hls
    have eq : cV (vL (lNeg a)) = .long (-(Int64.ofInt a)) := congrArg _ (Int64.ofInt_toInt _)
    rw [List.map_cons, eq] at k
    exact lv_lneg hx hb hd k
  · exact hs.elim
theorem z_i2l (hx : p.tables.exec = Jvm.exec) (hb : c.code = cc) (hd : decode cc pc = .ok (.i2l, 1)) (hs : s_i2l G C Q (mmW E p l e R s m args below meth c Qf hf h0 nL) (pc + 1) L st h) : mmX E p l e R s m args below meth c Qf h0 nL pc L st h := by
  intro hg wl ws hn H locs ls hR hlo hls
  unfold s_i2l at hs; split at hs
  · rename_i a st'
    have ha : iR a := wfS_h ws
    have k := hs.2 hg wl (wfS_c (v := vL a) (by obtain ⟨h1, h2⟩ := ha; exact ⟨by omega, by omega⟩) (wfS_t ws)) hn H locs ls hR hlo hls
    refine lv_i2l hx hb hd ?_ k
    apply Int64.toInt_inj.mp
    rw [i64i (by obtain ⟨h1, h2⟩ := ha; exact ⟨by omega, by omega⟩), Int32.toInt_toInt64, i32i ha]
  · exact hs.elim
theorem z_lcmp (hx : p.tables.exec = Jvm.exec) (hb : c.code = cc) (hd : decode cc pc = .ok (.lcmp, 1)) (hs : s_lcmp G C Q (mmW E p l e R s m args below meth c Qf hf h0 nL) (pc + 1) L st h) : mmX E p l e R s m args below meth c Qf h0 nL pc L st h := by
  intro hg wl ws hn H locs ls hR hlo hls
  unfold s_lcmp at hs; split at hs
  · rename_i b a st'
    have wb : lR b := wfS_h ws
    have wa : lR a := wfS_h (wfS_t ws)
    have k := hs.2 hg wl (wfS_c (v := vI (lCmp a b)) (by show iR (lCmp a b); unfold lCmp iR; split <;> (try split) <;> omega) (wfS_t (wfS_t ws))) hn H locs ls hR hlo hls
    refine W.lcmp hx hb hd ?_
    have eq : lg_cmp (Int64.ofInt a) (Int64.ofInt b) = Int32.ofInt (lCmp a b) := by
      unfold lg_cmp lCmp
      simp only [gt_iff_lt, i64lt wb wa, i64eq wa wb]
      by_cases c1 : b < a
      · rw [if_pos c1, if_neg (by omega), if_neg (by omega)]; rfl
      · by_cases c2 : a = b
        · rw [if_neg c1, if_pos c2, if_neg (by omega), if_pos c2]; rfl
        · rw [if_neg c1, if_neg c2, if_pos (by omega)]; rfl
    rw [eq]
    exact k
  · exact hs.elim
theorem z_dup (hx : p.tables.exec = Jvm.exec) (hb : c.code = cc) (hd : decode cc pc = .ok (.dup, 1)) (hs : s_dup G C Q (mmW E p l e R s m args below meth c Qf hf h0 nL) (pc + 1) L st h) : mmX E p l e R s m args below meth c Qf h0 nL pc L st h := by
  intro hg wl ws hn H locs ls hR hlo hls
  unfold s_dup at hs; split at hs
  · exact lv_dup hx hb hd rfl (hs.2 hg wl (wfS_c (wfS_h ws) ws) hn H locs ls hR hlo hls)
  · rename_i r st'
    have k := hs.2 hg wl (wfS_c (wfS_h ws) ws) hn H locs ls hR hlo hls
    exact lv_dup hx hb hd (by cases r <;> rfl) k
  · exact hs.elim
theorem z_pop (hx : p.tables.exec = Jvm.exec) (hb : c.code = cc) (hd : decode cc pc = .ok (.pop, 1)) (hs : s_pop G C Q (mmW E p l e R s m args below meth c Qf hf h0 nL) (pc + 1) L st h) : mmX E p l e R s m args below meth c Qf h0 nL pc L st h := by
  intro hg wl ws hn H locs ls hR hlo hls
  unfold s_pop at hs; split at hs
  · exact lv_pop hx hb hd rfl (hs.2 hg wl (wfS_t ws) hn H locs ls hR hlo hls)
  · rename_i r st'
    have k := hs.2 hg wl (wfS_t ws) hn H locs ls hR hlo hls
    exact lv_pop hx hb hd (by cases r <;> rfl) k
  · exact hs.elim
theorem z_dup_x1 (hx : p.tables.exec = Jvm.exec) (hb : c.code = cc) (hd : decode cc pc = .ok (.dup_x1, 1)) (hs : s_dupx1 G C Q (mmW E p l e R s m args below meth c Qf hf h0 nL) (pc + 1) L st h) : mmX E p l e R s m args below meth c Qf h0 nL pc L st h := by
  intro hg wl ws hn H locs ls hR hlo hls
  unfold s_dupx1 at hs; split at hs
  · rename_i x r st'
    have k := hs.2 hg wl (wfS_c (wfS_h ws) (wfS_c (wfS_h (wfS_t ws)) (wfS_c (wfS_h ws) (wfS_t (wfS_t ws))))) hn H locs ls hR hlo hls
    exact lv_dup_x1 hx hb hd rfl (by cases r <;> rfl) k
  · rename_i q r st'
    have k := hs.2 hg wl (wfS_c (wfS_h ws) (wfS_c (wfS_h (wfS_t ws)) (wfS_c (wfS_h ws) (wfS_t (wfS_t ws))))) hn H locs ls hR hlo hls
    exact lv_dup_x1 hx hb hd (by cases q <;> rfl) (by cases r <;> rfl) k
  · exact hs.elim
theorem z_dup2 (hx : p.tables.exec = Jvm.exec) (hb : c.code = cc) (hd : decode cc pc = .ok (.dup2, 1)) (hs : s_dup2 G C Q (mmW E p l e R s m args below meth c Qf hf h0 nL) (pc + 1) L st h) : mmX E p l e R s m args below meth c Qf h0 nL pc L st h := by
  intro hg wl ws hn H locs ls hR hlo hls
  unfold s_dup2 at hs; split at hs
  · rename_i x r st'
    have k := hs.2 hg wl (wfS_c (wfS_h ws) (wfS_c (wfS_h (wfS_t ws)) ws)) hn H locs ls hR hlo hls
    exact lv_dup2_11 hx hb hd rfl (by cases r <;> rfl) k
  · exact hs.elim
theorem jmp_ok {pc : Nat} {f : Int} (h : 0 ≤ (pc : Int) + f) : (pc : Int) + f = (jmp pc f : Int) := by unfold jmp; omega
theorem z_cmp {k : ClassFile.Cond} {a b : Int} (ha : iR a) (hb : iR b) : cmpI k a b ↔ (match k with | .eq => Int32.ofInt a = Int32.ofInt b | .ne => ¬ Int32.ofInt a = Int32.ofInt b | .lt => Int32.ofInt a < Int32.ofInt b | .ge => Int32.ofInt b ≤ Int32.ofInt a | .gt => Int32.ofInt b < Int32.ofInt a | .le => Int32.ofInt a ≤ Int32.ofInt b) := by
  cases k <;> simp only [cmpI, i32eq ha hb, i32lt ha hb, i32le ha hb, i32lt hb ha, i32le hb ha]
theorem z_ifc (hx : p.tables.exec = Jvm.exec) (hb : c.code = cc) {k : ClassFile.Cond} {f : Int} (hj : 0 ≤ (pc : Int) + f) (hd : decode cc pc = .ok (.ifCond k f, 3)) (hs : s_ifc G C Q (mmW E p l e R s m args below meth c Qf hf h0 nL) (pc + 3) k (jmp pc f) L st h) : mmX E p l e R s m args below meth c Qf h0 nL pc L st h := by
  intro hg wl ws hn H locs ls hR hlo hls
  unfold s_ifc at hs; split at hs
  · rename_i a st'
    have wa : iR a := wfS_h ws
    have kt := fun q => (hs.1 q).2 hg wl (wfS_t ws) hn H locs ls hR hlo hls
    have kf := fun q => (hs.2 q).2 hg wl (wfS_t ws) hn H locs ls hR hlo hls
    cases k
    · exact lv_if_eq hx hb hd (jmp_ok hj) (fun q => kt ((z_cmp wa iR_0).mpr q)) (fun q => kf (fun z => q ((z_cmp wa iR_0).mp z)))
    · exact lv_if_ne hx hb hd (jmp_ok hj) (fun q => kt ((z_cmp wa iR_0).mpr q)) (fun q => kf (fun z => (z_cmp wa iR_0).mp z q))
    · exact lv_if_lt hx hb hd (jmp_ok hj) (fun q => kt ((z_cmp wa iR_0).mpr q)) (fun q => kf (fun z => q ((z_cmp wa iR_0).mp z)))
    · exact lv_if_ge hx hb hd (jmp_ok hj) (fun q => kt ((z_cmp wa iR_0).mpr q)) (fun q => kf (fun z => q ((z_cmp wa iR_0).mp z)))
    · exact lv_if_gt hx hb hd (jmp_ok hj) (fun q => kt ((z_cmp wa iR_0).mpr q)) (fun q => kf (fun z => q ((z_cmp wa iR_0).mp z)))
    · exact lv_if_le hx hb hd (jmp_ok hj) (fun q => kt ((z_cmp wa iR_0).mpr q)) (fun q => kf (fun z => q ((z_cmp wa iR_0).mp z)))
  · exact hs.elim
theorem z_icmp (hx : p.tables.exec = Jvm.exec) (hb : c.code = cc) {k : ClassFile.Cond} {f : Int} (hj : 0 ≤ (pc : Int) + f) (hd : decode cc pc = .ok (.if_icmp k f, 3)) (hs : s_icmp G C Q (mmW E p l e R s m args below meth c Qf hf h0 nL) (pc + 3) k (jmp pc f) L st h) : mmX E p l e R s m args below meth c Qf h0 nL pc L st h := by
  intro hg wl ws hn H locs ls hR hlo hls
  unfold s_icmp at hs; split at hs
  · rename_i b a st'
    have wb : iR b := wfS_h ws
    have wa : iR a := wfS_h (wfS_t ws)
    have kt := fun q => (hs.1 q).2 hg wl (wfS_t (wfS_t ws)) hn H locs ls hR hlo hls
    have kf := fun q => (hs.2 q).2 hg wl (wfS_t (wfS_t ws)) hn H locs ls hR hlo hls
    cases k
    · exact lv_icmp_eq hx hb hd (jmp_ok hj) (fun q => kt ((z_cmp wa wb).mpr q)) (fun q => kf (fun z => q ((z_cmp wa wb).mp z)))
    · exact lv_icmp_ne hx hb hd (jmp_ok hj) (fun q => kt ((z_cmp wa wb).mpr q)) (fun q => kf (fun z => (z_cmp wa wb).mp z q))
    · exact lv_icmp_lt hx hb hd (jmp_ok hj) (fun q => kt ((z_cmp wa wb).mpr q)) (fun q => kf (fun z => q ((z_cmp wa wb).mp z)))
    · exact lv_icmp_ge hx hb hd (jmp_ok hj) (fun q => kt ((z_cmp wa wb).mpr q)) (fun q => kf (fun z => q ((z_cmp wa wb).mp z)))
    · exact lv_icmp_gt hx hb hd (jmp_ok hj) (fun q => kt ((z_cmp wa wb).mpr q)) (fun q => kf (fun z => q ((z_cmp wa wb).mp z)))
    · exact lv_icmp_le hx hb hd (jmp_ok hj) (fun q => kt ((z_cmp wa wb).mpr q)) (fun q => kf (fun z => q ((z_cmp wa wb).mp z)))
  · exact hs.elim
theorem z_ifnull (hx : p.tables.exec = Jvm.exec) (hb : c.code = cc) {f : Int} (hj : 0 ≤ (pc : Int) + f) (hd : decode cc pc = .ok (.ifnull f, 3)) (hs : s_ifnull G C Q (mmW E p l e R s m args below meth c Qf hf h0 nL) (pc + 3) (jmp pc f) L st h) : mmX E p l e R s m args below meth c Qf h0 nL pc L st h := by
  intro hg wl ws hn H locs ls hR hlo hls
  unfold s_ifnull at hs; split at hs
  · rename_i r st'
    cases r with
    | none => exact lv_ifnullN hx hb hd (jmp_ok hj) ((hs.1 rfl).2 hg wl (wfS_t ws) hn H locs ls hR hlo hls)
    | some a => exact lv_ifnull hx hb hd ((hs.2 (fun q => by cases q)).2 hg wl (wfS_t ws) hn H locs ls hR hlo hls)
  · exact hs.elim
theorem z_ifnn (hx : p.tables.exec = Jvm.exec) (hb : c.code = cc) {f : Int} (hj : 0 ≤ (pc : Int) + f) (hd : decode cc pc = .ok (.ifnonnull f, 3)) (hs : s_ifnn G C Q (mmW E p l e R s m args below meth c Qf hf h0 nL) (pc + 3) (jmp pc f) L st h) : mmX E p l e R s m args below meth c Qf h0 nL pc L st h := by
  intro hg wl ws hn H locs ls hR hlo hls
  unfold s_ifnn at hs; split at hs
  · rename_i r st'
    cases r with
    | none => exact lv_ifnonnullN hx hb hd ((hs.1 rfl).2 hg wl (wfS_t ws) hn H locs ls hR hlo hls)
    | some a => exact lv_ifnonnull hx hb hd (jmp_ok hj) ((hs.2 (fun q => by cases q)).2 hg wl (wfS_t ws) hn H locs ls hR hlo hls)
  · exact hs.elim
theorem z_acmpe (hx : p.tables.exec = Jvm.exec) (hb : c.code = cc) {f : Int} (hj : 0 ≤ (pc : Int) + f) (hd : decode cc pc = .ok (.if_acmp .eq f, 3)) (hs : s_acmp G C Q (mmW E p l e R s m args below meth c Qf hf h0 nL) nx (jmp pc f) (pc + 3) L st h) : mmX E p l e R s m args below meth c Qf h0 nL pc L st h := by
  intro hg wl ws hn H locs ls hR hlo hls
  unfold s_acmp at hs; split at hs
  · rename_i b a st'
    have kt := fun q => (hs.1 q).2 hg wl (wfS_t (wfS_t ws)) hn H locs ls hR hlo hls
    have kf := fun q => (hs.2 q).2 hg wl (wfS_t (wfS_t ws)) hn H locs ls hR hlo hls
    rw [List.map_cons, List.map_cons, cV_o, cV_o]
    exact lv_acmp_eq hx hb hd (jmp_ok hj) kt kf
  · exact hs.elim
theorem z_acmpn (hx : p.tables.exec = Jvm.exec) (hb : c.code = cc) {f : Int} (hj : 0 ≤ (pc : Int) + f) (hd : decode cc pc = .ok (.if_acmp .ne f, 3)) (hs : s_acmp G C Q (mmW E p l e R s m args below meth c Qf hf h0 nL) nx (pc + 3) (jmp pc f) L st h) : mmX E p l e R s m args below meth c Qf h0 nL pc L st h := by
  intro hg wl ws hn H locs ls hR hlo hls
  unfold s_acmp at hs; split at hs
  · rename_i b a st'
    have kt := fun q => (hs.1 q).2 hg wl (wfS_t (wfS_t ws)) hn H locs ls hR hlo hls
    have kf := fun q => (hs.2 q).2 hg wl (wfS_t (wfS_t ws)) hn H locs ls hR hlo hls
    rw [List.map_cons, List.map_cons, cV_o, cV_o]
    exact lv_acmp_ne hx hb hd (jmp_ok hj) kf kt
  · exact hs.elim
theorem z_goto (hx : p.tables.exec = Jvm.exec) (hb : c.code = cc) {f : Int} (hj : 0 ≤ (pc : Int) + f) (hd : decode cc pc = .ok (.goto f, 3)) (hs : s_goto G C Q (mmW E p l e R s m args below meth c Qf hf h0 nL) nx (jmp pc f) L st h) : mmX E p l e R s m args below meth c Qf h0 nL pc L st h := by
  intro hg wl ws hn H locs ls hR hlo hls
  exact lv_goto hx hb hd (jmp_ok hj) (hs.2 hg wl ws hn H locs ls hR hlo hls)
theorem z_tsw (hx : p.tables.exec = Jvm.exec) (hb : c.code = cc) {d lo hi : Int} {fs : Array Int} {len : Nat} (hj : 0 ≤ (pc : Int) + d) (hz : hi - lo + 1 = fs.size) (hj2 : ∀ i : Nat, i < fs.size → 0 ≤ (pc : Int) + fs.getD i 0) (hd : decode cc pc = .ok (.tableswitch d lo hi fs, len)) (hs : s_swi G C Q (mmW E p l e R s m args below meth c Qf hf h0 nL) nx (fun x => jmp pc (tswF d lo hi fs x)) L st h) : mmX E p l e R s m args below meth c Qf h0 nL pc L st h := by
  intro hg wl ws hn H locs ls hR hlo hls
  unfold s_swi at hs; split at hs
  · rename_i x st'
    have wx : iR x := wfS_h ws
    have k := hs.2 hg wl (wfS_t ws) hn H locs ls hR hlo hls
    simp only at k
    by_cases hc : x < lo ∨ hi < x
    · rw [show tswF d lo hi fs x = d from if_pos hc] at k
      exact lv_tableOut hx hb hd (by rw [i32i wx]; exact hc) (jmp_ok hj) k
    · have h1 : ¬ x < lo := fun q => hc (Or.inl q)
      have h2 : ¬ hi < x := fun q => hc (Or.inr q)
      have hl : (x - lo).toNat < fs.size := by omega
      have hv : fs[(x - lo).toNat]? = some (fs.getD (x - lo).toNat 0) := by
        rw [Array.getD_eq_getD_getElem?, Array.getElem?_eq_getElem hl]; rfl
      have e2 : tswF d lo hi fs x = fs.getD (x - lo).toNat 0 := by
        unfold tswF
        rw [if_neg hc, hv]; rfl
      rw [e2] at k
      exact lv_tableIn hx hb hd (by rw [i32i wx]; exact h1) (by rw [i32i wx]; exact h2) (by rw [i32i wx]; exact hv) (jmp_ok (hj2 _ hl)) k
  · exact hs.elim
theorem z_lsw (hx : p.tables.exec = Jvm.exec) (hb : c.code = cc) {d : Int} {ps : Array (Int × Int)} {len : Nat} (hp : (ps.toList.zip (ps.toList.drop 1)).all (fun (a, next) => a.1 < next.1) = true) (hj : ∀ x : Int, 0 ≤ (pc : Int) + Op.lookupswitch.offset ps.toList d x) (hd : decode cc pc = .ok (.lookupswitch d ps, len)) (hs : s_swi G C Q (mmW E p l e R s m args below meth c Qf hf h0 nL) nx (fun x => jmp pc (Op.lookupswitch.offset ps.toList d x)) L st h) : mmX E p l e R s m args below meth c Qf h0 nL pc L st h := by
  intro hg wl ws hn H locs ls hR hlo hls
  unfold s_swi at hs; split at hs
  · rename_i x st'
    have wx : iR x := wfS_h ws
    have k := hs.2 hg wl (wfS_t ws) hn H locs ls hR hlo hls
    exact lv_lookup hx hb hd hp (by rw [i32i wx]) (jmp_ok (hj x)) k
  · exact hs.elim
end ZR
