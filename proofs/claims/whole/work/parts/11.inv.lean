/-! the pure heap in the machine's -/
/-- over what: what the kit knows of the classes; the classes of int[], boolean[], Object[]; the heap at the start; the small machine's addresses -/
abbrev ME : Type := va_G × (ClassId × ClassId × ClassId) × Heap × MG
def eB (E : ME) : Nat := E.2.2.2.1
def eA (E : ME) : Nat → Prop := fun q => E.2.2.2.1 ≤ q
abbrev oA : FieldType := .object "java/lang/Object"
def cE (E : ME) : MC → Nat → va_E
  | Sum.inl (t, fs), _ => .inr (t, fs.map cV)
  | Sum.inr (Sum.inl (0, n, f)), _ => .inl (E.2.1.1, n, .inl (fun j => Int32.ofInt (f j)))
  | Sum.inr (Sum.inl (_, n, f)), _ => .inl (E.2.1.2.1, n, .inl (fun j => Int32.ofInt (f j)))
  | Sum.inr (Sum.inr (_, n, f)), _ => .inl (E.2.1.2.2, n, .inr (.inr (.inr (.inr f))))
/-- which cells may be written -/
def rwC : MC → Prop
  | Sum.inl (t, fs) => t < 14 ∧ fs.length = cL t
  | Sum.inr (Sum.inl (ty, _, _)) => ty = 0 ∨ ty = 1
  | Sum.inr (Sum.inr (ty, _, _)) => ty = 0
/-- the constants' cells -/
def roC (E : ME) (U : State) (H : Heap) (a : Nat) : MC → Prop
  | Sum.inl _ => False
  | Sum.inr (Sum.inl (ty, n, f)) => (ty = 10 ∧ va_T .byte a n (fun j => .int (Int32.ofInt (f j))) (eA E) U H) ∨ (ty = 11 ∧ va_T .int a n (fun j => .int (Int32.ofInt (f j))) (eA E) U H)
  | Sum.inr (Sum.inr (ty, n, f)) => ty = 1 ∧ va_T oA a n (fun j => va_rf (f j)) (eA E) U H
def Rc (E : ME) (U : State) (H : Heap) (a : Nat) (c : MC) : Prop := (rwC c ∧ eB E ≤ a ∧ va_at E.1 mCl (a, cE E c a) H) ∨ roC E U H a c
def mmR (E : ME) (U : State) (h : MH) (H : Heap) : Prop :=
  H.size = eB E + h.1 ∧ (∀ q : Nat, q < eB E → H[q]? = E.2.2.1[q]?) ∧ ∀ (a : Nat) (c : MC), h.2.2 a = some c → Rc E U H a c ∧ wfC c
theorem roC_kept {E : ME} {U : State} {H H1 : Heap} {a : Nat} {c : MC} (h : roC E U H a c) (hq : ∀ q : Nat, q < eB E → H1[q]? = H[q]?) : roC E U H1 a c := by
  have hq' : ∀ a : Nat, a < H.size → ¬ eA E a → H1[a]? = H[a]? := fun a _ h => hq a (Nat.not_le.mp h)
  rcases c with ⟨t, fs⟩ | ⟨ty, n, f⟩ | ⟨ty, n, f⟩
  · exact h.elim
  · rcases h with ⟨h1, h2⟩ | ⟨h1, h2⟩
    · exact Or.inl ⟨h1, h2.kept hq'⟩
    · exact Or.inr ⟨h1, h2.kept hq'⟩
  · exact ⟨h.1, h.2.kept hq'⟩
theorem roC_moved {E : ME} {u U : State} {H : Heap} {a : Nat} {c : MC} (hvm : u.vm.Alike U.vm) (h : roC E u H a c) : roC E U H a c := by
  rcases c with ⟨t, fs⟩ | ⟨ty, n, f⟩ | ⟨ty, n, f⟩
  · exact h.elim
  · rcases h with ⟨h1, h2⟩ | ⟨h1, h2⟩
    · exact Or.inl ⟨h1, h2.moved hvm⟩
    · exact Or.inr ⟨h1, h2.moved hvm⟩
  · exact ⟨h.1, h.2.moved hvm⟩
theorem roC_lt {E : ME} {U : State} {H : Heap} {a : Nat} {c : MC} (h : roC E U H a c) : a < H.size := by
  rcases c with ⟨t, fs⟩ | ⟨ty, n, f⟩ | ⟨ty, n, f⟩
  · exact h.elim
  · rcases h with ⟨h1, ⟨cell, h3, -⟩⟩ | ⟨h1, ⟨cell, h3, -⟩⟩ <;> exact (Array.getElem?_eq_some_iff.mp h3).1
  · obtain ⟨-, ⟨cell, h3, -⟩⟩ := h
    exact (Array.getElem?_eq_some_iff.mp h3).1
theorem Rc_kept {E : ME} {U : State} {H H1 : Heap} {a : Nat} {c : MC} (h : Rc E U H a c) (ha : H1[a]? = H[a]?) (hq : ∀ q : Nat, q < eB E → H1[q]? = H[q]?) : Rc E U H1 a c := by
  rcases h with ⟨h1, h2, h3⟩ | h
  · exact Or.inl ⟨h1, h2, h3.kept ha⟩
  · exact Or.inr (roC_kept h hq)
theorem Rc_moved {E : ME} {u U : State} {H : Heap} {a : Nat} {c : MC} (hvm : u.vm.Alike U.vm) (h : Rc E u H a c) : Rc E U H a c := by
  rcases h with h | h
  · exact Or.inl h
  · exact Or.inr (roC_moved hvm h)
theorem Rc_lt {E : ME} {U : State} {H : Heap} {a : Nat} {c : MC} (h : Rc E U H a c) : a < H.size := by
  rcases h with ⟨-, -, h⟩ | h
  · exact h.lt
  · exact roC_lt h
theorem mmR_moved {E : ME} {u U : State} {h : MH} {H : Heap} (hvm : u.vm.Alike U.vm) (hR : mmR E u h H) : mmR E U h H :=
  ⟨hR.1, hR.2.1, fun a c hc => ⟨Rc_moved hvm (hR.2.2 a c hc).1, (hR.2.2 a c hc).2⟩⟩
theorem mmR_set {E : ME} {U : State} {h : MH} {H H1 : Heap} {a : Nat} {c0 c : MC} (hR : mmR E U h H) (h0 : h.2.2 a = some c0) (hw : rwC c0) (hz : H1.size = H.size) (oq : ∀ q : Nat, q ≠ a → H1[q]? = H[q]?) (hc : rwC c) (hat : va_at E.1 mCl (a, cE E c a) H1) (hwf : wfC c) : mmR E U (hset h a c) H1 := by
  have hb : eB E ≤ a := by
    rcases (hR.2.2 a c0 h0).1 with ⟨-, h2, -⟩ | h2
    · exact h2
    · exfalso
      rcases c0 with ⟨t, fs⟩ | ⟨ty, n, f⟩ | ⟨ty, n, f⟩
      · exact h2.elim
      · rcases h2 with ⟨h3, -⟩ | ⟨h3, -⟩ <;> rcases hw with h4 | h4 <;> omega
      · have h4 : ty = 0 := hw
        obtain ⟨h3, -⟩ := h2
        omega
  have hq : ∀ q : Nat, q < eB E → H1[q]? = H[q]? := fun q hq => oq q (by omega)
  refine ⟨hz.trans hR.1, fun q h1 => (hq q h1).trans (hR.2.1 q h1), fun b c' hb' => ?_⟩
  by_cases hba : b = a
  · subst hba
    have e : c' = c := by
      have : (hset h b c).2.2 b = some c := by simp [hset, up1]
      rw [this] at hb'
      exact (Option.some.inj hb').symm
    subst e
    exact ⟨Or.inl ⟨hc, hb, hat⟩, hwf⟩
  · have e : (hset h a c).2.2 b = h.2.2 b := by simp [hset, up1, hba]
    rw [e] at hb'
    exact ⟨Rc_kept (hR.2.2 b c' hb').1 (oq b hba) hq, (hR.2.2 b c' hb').2⟩
theorem mmR_new {E : ME} {U : State} {h : MH} {H H1 : Heap} {n : Nat} {c : MC} (hR : mmR E U h H) (hz : H1.size = H.size + 1) (oq : ∀ q : Nat, q < H.size → H1[q]? = H[q]?) (hc : rwC c) (hat : va_at E.1 mCl (H.size, cE E c (E.2.2.2.1 + h.1)) H1) (hwf : wfC c) : mmR E U (hnew h (E.2.2.2.1 + h.1) n c) H1 := by
  have hs : H.size = E.2.2.2.1 + h.1 := hR.1
  have hq : ∀ q : Nat, q < eB E → H1[q]? = H[q]? := fun q hq => oq q (by unfold eB at hq; omega)
  refine ⟨by rw [hz, hs]; show _ = E.2.2.2.1 + (h.1 + 1); omega, fun q h1 => (hq q h1).trans (hR.2.1 q h1), fun b c' hb' => ?_⟩
  by_cases hba : b = E.2.2.2.1 + h.1
  · subst hba
    have e : c' = c := by
      have : (hnew h (E.2.2.2.1 + h.1) n c).2.2 (E.2.2.2.1 + h.1) = some c := by simp [hnew, up1]
      rw [this] at hb'
      exact (Option.some.inj hb').symm
    subst e
    exact ⟨Or.inl ⟨hc, by unfold eB; omega, by rw [← hs] at *; exact hat⟩, hwf⟩
  · have e : (hnew h (E.2.2.2.1 + h.1) n c).2.2 b = h.2.2 b := by simp [hnew, up1, hba]
    rw [e] at hb'
    have hl := Rc_lt (hR.2.2 b c' hb').1
    exact ⟨Rc_kept (hR.2.2 b c' hb').1 (oq b hl) hq, (hR.2.2 b c' hb').2⟩
/-- what is known of the tables and the constants -/
def KU (E : ME) (U : State) : Prop :=
  va_K E.1 mCl [(E.2.1.1, .int), (E.2.1.2.1, .boolean), (E.2.1.2.2, oA)] U ∧
  va_Z "java/util/ArrayList" "DEFAULTCAPACITY_EMPTY_ELEMENTDATA" "[Ljava/lang/Object;" (.ref (E.2.2.2.2.1 GE)) (eA E) U E.2.2.1 ∧
  va_Z "java/lang/String" "COMPACT_STRINGS" "Z" (.int 1) (eA E) U E.2.2.1 ∧
  va_Z "jdk/internal/util/Preconditions" "SIOOBE_FORMATTER" "Ljava/util/function/BiFunction;" (va_rf E.2.2.2.2.2.1) (eA E) U E.2.2.1 ∧
  (∀ q ∈ strT, vk_R q.1 q.2.1 q.2.2.1 (E.2.2.2.2.1 q.2.2.2) U) ∧
  (∀ q ∈ ncT, va_Nc q.1 q.2 U) ∧ (∀ q ∈ caT, va_Nw (.castable q.1 q.2) U) ∧ (∀ q ∈ neT, va_Nw (.methodLinkNest q.1 q.2.1 q.2.2.1 q.2.2.2) U) ∧ va_AO "java/lang/Object" U ∧
  (∀ a v : Nat, E.2.2.2.2.2.2 a = some v → va_O "java/lang/String" a (eA E) U E.2.2.1 ∧ va_OF "java/lang/String" "value" "[B" (.ref v) a (eA E) U E.2.2.1 ∧ va_OF "java/lang/String" "coder" "B" (.int 0) a (eA E) U E.2.2.1)
theorem KU_warm {E : ME} {s U : State} (hW : s.WarmedH U.vm) (h : KU E s) : KU E U := by
  have hv := hW.alike
  obtain ⟨h1, h2, h3, h4, h5, h6, h7, h8, h9, h10⟩ := h
  exact ⟨va_K.moved hv h1, h2.moved hv, h3.moved hv, h4.moved hv, fun q hq => (h5 q hq).warm hW, fun q hq => va_Nc.moved hv (h6 q hq), fun q hq => va_Nw.warmC hW (h7 q hq), fun q hq => va_Nw.warmM hW (h8 q hq), va_AO.moved hv h9, fun a v hav => ⟨(h10 a v hav).1.moved hv, (h10 a v hav).2.1.moved hv, (h10 a v hav).2.2.moved hv⟩⟩
