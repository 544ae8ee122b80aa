/-! a step has one way to go on: it ends, goes to one next state, or calls -/
abbrev SG : Type := MG → KC → KQ → KP → Prop
def lEnd (G : MG) (Q : KQ) (h : MH) (S : SG) : Prop := ∃ (r : Option V), Q r h ∧ ∀ (C : KC) (Q' : KQ) (P' : KP), S G C Q' P' ↔ Q' r h
def lGo (G : MG) (P : KP) (h : MH) (S : SG) : Prop := ∃ (pc : Nat) (L : Loc') (st : List V) (h' : MH), P pc L st h' ∧ (h.1 ≤ h'.1 ∧ h.2.1 ≤ h'.2.1) ∧ ∀ (C : KC) (Q' : KQ) (P' : KP), S G C Q' P' ↔ P' pc L st h'
def lCall (G : MG) (C : KC) (P : KP) (h : MH) (S : SG) : Prop := ∃ (y : Nat) (a : List V) (nx : Nat) (L : Loc') (rest : List V), C y a h (fun r h1 => P nx L (r.toList ++ rest) h1) ∧ ∀ (C' : KC) (Q' : KQ) (P' : KP), S G C' Q' P' ↔ C' y a h (fun r h1 => P' nx L (r.toList ++ rest) h1)
def lin (G : MG) (C : KC) (Q : KQ) (P : KP) (h : MH) (S : SG) : Prop := lEnd G Q h S ∨ lGo G P h S ∨ lCall G C P h S
theorem l_go {G : MG} {C : KC} {Q : KQ} {P : KP} {h h' : MH} {S : SG} {pc : Nat} {L : Loc'} {st : List V} (hs : P pc L st h') (hb : h.1 ≤ h'.1 ∧ h.2.1 ≤ h'.2.1) (f : ∀ (C : KC) (Q' : KQ) (P' : KP), S G C Q' P' ↔ P' pc L st h') : lin G C Q P h S := Or.inr (Or.inl ⟨pc, L, st, h', hs, hb, f⟩)
theorem l_end {G : MG} {C : KC} {Q : KQ} {P : KP} {h : MH} {S : SG} {r : Option V} (hs : Q r h) (f : ∀ (C : KC) (Q' : KQ) (P' : KP), S G C Q' P' ↔ Q' r h) : lin G C Q P h S := Or.inl ⟨r, hs, f⟩
theorem l_call {G : MG} {C : KC} {Q : KQ} {P : KP} {h : MH} {S : SG} {y : Nat} {a : List V} {nx : Nat} {L : Loc'} {rest : List V} (hs : C y a h (fun r h1 => P nx L (r.toList ++ rest) h1)) (f : ∀ (C' : KC) (Q' : KQ) (P' : KP), S G C' Q' P' ↔ C' y a h (fun r h1 => P' nx L (r.toList ++ rest) h1)) : lin G C Q P h S := Or.inr (Or.inr ⟨y, a, nx, L, rest, hs, f⟩)
theorem b_rf {h : MH} : h.1 ≤ h.1 ∧ h.2.1 ≤ h.2.1 := ⟨Nat.le_refl _, Nat.le_refl _⟩
theorem b_new {h : MH} {a n : Nat} {c : MC} : h.1 ≤ (hnew h a n c).1 ∧ h.2.1 ≤ (hnew h a n c).2.1 := ⟨Nat.le_succ _, Nat.le_add_right _ _⟩
theorem xGet_pt {k w : Nat} {c : Option MC} {K : V → Prop} (h : xGet k w c K) : ∃ v, K v ∧ ∀ K' : V → Prop, xGet k w c K' ↔ K' v := by
  unfold xGet at *; split at h
  · rename_i t fs
    obtain ⟨h1, h2⟩ := h
    split at h2
    · rename_i v hv
      exact ⟨v, h2, fun K' => ⟨fun z => z.2, fun z => ⟨h1, z⟩⟩⟩
    · exact h2.elim
  · exact h.elim
theorem xPut_pt {k w : Nat} {v : V} {c : Option MC} {K : MC → Prop} (h : xPut k w v c K) : ∃ v', K v' ∧ ∀ K' : MC → Prop, xPut k w v c K' ↔ K' v' := by
  unfold xPut at *; split at h
  · exact ⟨_, h.2.2.2, fun K' => ⟨fun z => z.2.2.2, fun z => ⟨h.1, h.2.1, h.2.2.1, z⟩⟩⟩
  · exact h.elim
theorem xAld_pt {ok : Nat → Bool} {i : Int} {c : Option MC} {K : Int → Prop} (h : xAld ok i c K) : ∃ v', K v' ∧ ∀ K' : Int → Prop, xAld ok i c K' ↔ K' v' := by
  unfold xAld at *; split at h
  · exact ⟨_, h.2.2.2, fun K' => ⟨fun z => z.2.2.2, fun z => ⟨h.1, h.2.1, h.2.2.1, z⟩⟩⟩
  · exact h.elim
theorem xAst_pt {t : Nat} {i x : Int} {c : Option MC} {K : MC → Prop} (h : xAst t i x c K) : ∃ v', K v' ∧ ∀ K' : MC → Prop, xAst t i x c K' ↔ K' v' := by
  unfold xAst at *; split at h
  · exact ⟨_, h.2.2.2, fun K' => ⟨fun z => z.2.2.2, fun z => ⟨h.1, h.2.1, h.2.2.1, z⟩⟩⟩
  · exact h.elim
theorem xRld_pt {i : Int} {c : Option MC} {K : V → Prop} (h : xRld i c K) : ∃ v', K v' ∧ ∀ K' : V → Prop, xRld i c K' ↔ K' v' := by
  unfold xRld at *; split at h
  · exact ⟨_, h.2.2.2, fun K' => ⟨fun z => z.2.2.2, fun z => ⟨h.1, h.2.1, h.2.2.1, z⟩⟩⟩
  · exact h.elim
theorem xRst_pt {i : Int} {r : Option Nat} {c : Option MC} {K : MC → Prop} (h : xRst i r c K) : ∃ v', K v' ∧ ∀ K' : MC → Prop, xRst i r c K' ↔ K' v' := by
  unfold xRst at *; split at h
  · exact ⟨_, h.2.2.2, fun K' => ⟨fun z => z.2.2.2, fun z => ⟨h.1, h.2.1, h.2.2.1, z⟩⟩⟩
  · exact h.elim
theorem xLen_pt {c : Option MC} {K : Int → Prop} (h : xLen c K) : ∃ v', K v' ∧ ∀ K' : Int → Prop, xLen c K' ↔ K' v' := by
  unfold xLen at *; split at h
  · exact ⟨_, h, fun K' => Iff.rfl⟩
  · exact ⟨_, h, fun K' => Iff.rfl⟩
  · exact h.elim
theorem xTag_pt {c : Option MC} {K : Nat → Prop} (h : xTag c K) : ∃ v', K v' ∧ ∀ K' : Nat → Prop, xTag c K' ↔ K' v' := by
  unfold xTag at *; split at h
  · exact ⟨_, h, fun K' => Iff.rfl⟩
  · exact h.elim
theorem xSel_pt {c : Option Nat} {K : Nat → Prop} (h : xSel c K) : ∃ v', K v' ∧ ∀ K' : Nat → Prop, xSel c K' ↔ K' v' := by
  unfold xSel at *; split at h
  · exact ⟨_, h, fun K' => Iff.rfl⟩
  · exact h.elim
theorem xRow_pt {c : Option MC} {K : Prop} (h : xRow c K) : K ∧ ∀ K' : Prop, xRow c K' ↔ K' := by
  unfold xRow at *; split at h
  · exact ⟨h.2, fun K' => ⟨fun z => z.2, fun z => ⟨h.1, z⟩⟩⟩
  · exact h.elim
theorem xCpy_pt {a b : Option MC} {sp dp n : Int} {K : MC → Prop} (h : xCpy a b sp dp n K) : ∃ v', K v' ∧ ∀ K' : MC → Prop, xCpy a b sp dp n K' ↔ K' v' := by
  unfold xCpy at *; split at h
  · exact ⟨_, h.2.2.2.2.2.2.2, fun K' => ⟨fun z => z.2.2.2.2.2.2.2, fun z => ⟨h.1, h.2.1, h.2.2.1, h.2.2.2.1, h.2.2.2.2.1, h.2.2.2.2.2.1, h.2.2.2.2.2.2.1, z⟩⟩⟩
  · exact h.elim
theorem xRoS_pt {k : Nat} {r : Option Nat} {K : V → Prop} (h : xRoS k r K) : ∃ v', K v' ∧ ∀ K' : V → Prop, xRoS k r K' ↔ K' v' := by
  unfold xRoS at *; split at h
  · exact ⟨_, h, fun K' => Iff.rfl⟩
  · exact ⟨_, h, fun K' => Iff.rfl⟩
  · exact h.elim
theorem xCln_pt {c : Option MC} {K : Nat → MC → Prop} (h : xCln c K) : ∃ n v', K n v' ∧ ∀ K' : Nat → MC → Prop, xCln c K' ↔ K' n v' := by
  unfold xCln at *; split at h
  · exact ⟨_, _, h.2, fun K' => ⟨fun z => z.2, fun z => ⟨h.1, z⟩⟩⟩
  · exact h.elim
theorem l_cst {G : MG} {C : KC} {Q : KQ} {P : KP} {nx : Nat} {v : Int} {L : Loc'} {st : List V} {h : MH} (hs : s_cst G C Q P nx v L st h) : lin G C Q P h (fun G C Q P => s_cst G C Q P nx v L st h) := by
  exact l_go (S := fun G C Q P => s_cst G C Q P nx v L st h) hs b_rf (fun _ _ _ => Iff.rfl)
theorem l_lcst {G : MG} {C : KC} {Q : KQ} {P : KP} {nx : Nat} {v : Int} {L : Loc'} {st : List V} {h : MH} (hs : s_lcst G C Q P nx v L st h) : lin G C Q P h (fun G C Q P => s_lcst G C Q P nx v L st h) := by
  exact l_go (S := fun G C Q P => s_lcst G C Q P nx v L st h) hs b_rf (fun _ _ _ => Iff.rfl)
theorem l_nul {G : MG} {C : KC} {Q : KQ} {P : KP} {nx : Nat}  {L : Loc'} {st : List V} {h : MH} (hs : s_nul G C Q P nx L st h) : lin G C Q P h (fun G C Q P => s_nul G C Q P nx L st h) := by
  exact l_go (S := fun G C Q P => s_nul G C Q P nx L st h) hs b_rf (fun _ _ _ => Iff.rfl)
theorem l_ldi {G : MG} {C : KC} {Q : KQ} {P : KP} {nx : Nat} {n : Nat} {L : Loc'} {st : List V} {h : MH} (hs : s_ldi G C Q P nx n L st h) : lin G C Q P h (fun G C Q P => s_ldi G C Q P nx n L st h) := by
  unfold s_ldi at *
  split at hs <;> first | exact hs.elim | exact l_go (S := fun _ _ _ _ => _) hs b_rf (fun _ _ _ => Iff.rfl) | exact l_end (S := fun _ _ _ _ => _) hs (fun _ _ _ => Iff.rfl) | exact l_go (S := fun _ _ _ _ => _) hs.2 b_rf (fun _ _ _ => ⟨fun z => z.2, fun z => ⟨hs.1, z⟩⟩) | exact l_go (S := fun _ _ _ _ => _) hs.2 b_new (fun _ _ _ => ⟨fun z => z.2, fun z => ⟨hs.1, z⟩⟩) | exact l_end (S := fun _ _ _ _ => _) hs.2 (fun _ _ _ => ⟨fun z => z.2, fun z => ⟨hs.1, z⟩⟩)
theorem l_ldl {G : MG} {C : KC} {Q : KQ} {P : KP} {nx : Nat} {n : Nat} {L : Loc'} {st : List V} {h : MH} (hs : s_ldl G C Q P nx n L st h) : lin G C Q P h (fun G C Q P => s_ldl G C Q P nx n L st h) := by
  unfold s_ldl at *
  split at hs <;> first | exact hs.elim | exact l_go (S := fun _ _ _ _ => _) hs b_rf (fun _ _ _ => Iff.rfl) | exact l_end (S := fun _ _ _ _ => _) hs (fun _ _ _ => Iff.rfl) | exact l_go (S := fun _ _ _ _ => _) hs.2 b_rf (fun _ _ _ => ⟨fun z => z.2, fun z => ⟨hs.1, z⟩⟩) | exact l_go (S := fun _ _ _ _ => _) hs.2 b_new (fun _ _ _ => ⟨fun z => z.2, fun z => ⟨hs.1, z⟩⟩) | exact l_end (S := fun _ _ _ _ => _) hs.2 (fun _ _ _ => ⟨fun z => z.2, fun z => ⟨hs.1, z⟩⟩)
theorem l_ldr {G : MG} {C : KC} {Q : KQ} {P : KP} {nx : Nat} {n : Nat} {L : Loc'} {st : List V} {h : MH} (hs : s_ldr G C Q P nx n L st h) : lin G C Q P h (fun G C Q P => s_ldr G C Q P nx n L st h) := by
  unfold s_ldr at *
  split at hs <;> first | exact hs.elim | exact l_go (S := fun _ _ _ _ => _) hs b_rf (fun _ _ _ => Iff.rfl) | exact l_end (S := fun _ _ _ _ => _) hs (fun _ _ _ => Iff.rfl) | exact l_go (S := fun _ _ _ _ => _) hs.2 b_rf (fun _ _ _ => ⟨fun z => z.2, fun z => ⟨hs.1, z⟩⟩) | exact l_go (S := fun _ _ _ _ => _) hs.2 b_new (fun _ _ _ => ⟨fun z => z.2, fun z => ⟨hs.1, z⟩⟩) | exact l_end (S := fun _ _ _ _ => _) hs.2 (fun _ _ _ => ⟨fun z => z.2, fun z => ⟨hs.1, z⟩⟩)
theorem l_sti {G : MG} {C : KC} {Q : KQ} {P : KP} {nx : Nat} {n : Nat} {L : Loc'} {st : List V} {h : MH} (hs : s_sti G C Q P nx n L st h) : lin G C Q P h (fun G C Q P => s_sti G C Q P nx n L st h) := by
  unfold s_sti at *
  split at hs <;> first | exact hs.elim | exact l_go (S := fun _ _ _ _ => _) hs b_rf (fun _ _ _ => Iff.rfl) | exact l_end (S := fun _ _ _ _ => _) hs (fun _ _ _ => Iff.rfl) | exact l_go (S := fun _ _ _ _ => _) hs.2 b_rf (fun _ _ _ => ⟨fun z => z.2, fun z => ⟨hs.1, z⟩⟩) | exact l_go (S := fun _ _ _ _ => _) hs.2 b_new (fun _ _ _ => ⟨fun z => z.2, fun z => ⟨hs.1, z⟩⟩) | exact l_end (S := fun _ _ _ _ => _) hs.2 (fun _ _ _ => ⟨fun z => z.2, fun z => ⟨hs.1, z⟩⟩)
theorem l_stl {G : MG} {C : KC} {Q : KQ} {P : KP} {nx : Nat} {n : Nat} {L : Loc'} {st : List V} {h : MH} (hs : s_stl G C Q P nx n L st h) : lin G C Q P h (fun G C Q P => s_stl G C Q P nx n L st h) := by
  unfold s_stl at *
  split at hs <;> first | exact hs.elim | exact l_go (S := fun _ _ _ _ => _) hs b_rf (fun _ _ _ => Iff.rfl) | exact l_end (S := fun _ _ _ _ => _) hs (fun _ _ _ => Iff.rfl) | exact l_go (S := fun _ _ _ _ => _) hs.2 b_rf (fun _ _ _ => ⟨fun z => z.2, fun z => ⟨hs.1, z⟩⟩) | exact l_go (S := fun _ _ _ _ => _) hs.2 b_new (fun _ _ _ => ⟨fun z => z.2, fun z => ⟨hs.1, z⟩⟩) | exact l_end (S := fun _ _ _ _ => _) hs.2 (fun _ _ _ => ⟨fun z => z.2, fun z => ⟨hs.1, z⟩⟩)
theorem l_str {G : MG} {C : KC} {Q : KQ} {P : KP} {nx : Nat} {n : Nat} {L : Loc'} {st : List V} {h : MH} (hs : s_str G C Q P nx n L st h) : lin G C Q P h (fun G C Q P => s_str G C Q P nx n L st h) := by
  unfold s_str at *
  split at hs <;> first | exact hs.elim | exact l_go (S := fun _ _ _ _ => _) hs b_rf (fun _ _ _ => Iff.rfl) | exact l_end (S := fun _ _ _ _ => _) hs (fun _ _ _ => Iff.rfl) | exact l_go (S := fun _ _ _ _ => _) hs.2 b_rf (fun _ _ _ => ⟨fun z => z.2, fun z => ⟨hs.1, z⟩⟩) | exact l_go (S := fun _ _ _ _ => _) hs.2 b_new (fun _ _ _ => ⟨fun z => z.2, fun z => ⟨hs.1, z⟩⟩) | exact l_end (S := fun _ _ _ _ => _) hs.2 (fun _ _ _ => ⟨fun z => z.2, fun z => ⟨hs.1, z⟩⟩)
theorem l_iinc {G : MG} {C : KC} {Q : KQ} {P : KP} {nx : Nat} {n : Nat} {c : Int} {L : Loc'} {st : List V} {h : MH} (hs : s_iinc G C Q P nx n c L st h) : lin G C Q P h (fun G C Q P => s_iinc G C Q P nx n c L st h) := by
  unfold s_iinc at *
  split at hs <;> first | exact hs.elim | exact l_go (S := fun _ _ _ _ => _) hs b_rf (fun _ _ _ => Iff.rfl) | exact l_end (S := fun _ _ _ _ => _) hs (fun _ _ _ => Iff.rfl) | exact l_go (S := fun _ _ _ _ => _) hs.2 b_rf (fun _ _ _ => ⟨fun z => z.2, fun z => ⟨hs.1, z⟩⟩) | exact l_go (S := fun _ _ _ _ => _) hs.2 b_new (fun _ _ _ => ⟨fun z => z.2, fun z => ⟨hs.1, z⟩⟩) | exact l_end (S := fun _ _ _ _ => _) hs.2 (fun _ _ _ => ⟨fun z => z.2, fun z => ⟨hs.1, z⟩⟩)
theorem l_bin {G : MG} {C : KC} {Q : KQ} {P : KP} {nx : Nat} {k : Nat} {L : Loc'} {st : List V} {h : MH} (hs : s_bin G C Q P nx k L st h) : lin G C Q P h (fun G C Q P => s_bin G C Q P nx k L st h) := by
  unfold s_bin at *
  split at hs <;> first | exact hs.elim | exact l_go (S := fun _ _ _ _ => _) hs b_rf (fun _ _ _ => Iff.rfl) | exact l_end (S := fun _ _ _ _ => _) hs (fun _ _ _ => Iff.rfl) | exact l_go (S := fun _ _ _ _ => _) hs.2 b_rf (fun _ _ _ => ⟨fun z => z.2, fun z => ⟨hs.1, z⟩⟩) | exact l_go (S := fun _ _ _ _ => _) hs.2 b_new (fun _ _ _ => ⟨fun z => z.2, fun z => ⟨hs.1, z⟩⟩) | exact l_end (S := fun _ _ _ _ => _) hs.2 (fun _ _ _ => ⟨fun z => z.2, fun z => ⟨hs.1, z⟩⟩)
theorem l_idiv {G : MG} {C : KC} {Q : KQ} {P : KP} {nx : Nat}  {L : Loc'} {st : List V} {h : MH} (hs : s_idiv G C Q P nx L st h) : lin G C Q P h (fun G C Q P => s_idiv G C Q P nx L st h) := by
  unfold s_idiv at *
  split at hs <;> first | exact hs.elim | exact l_go (S := fun _ _ _ _ => _) hs b_rf (fun _ _ _ => Iff.rfl) | exact l_end (S := fun _ _ _ _ => _) hs (fun _ _ _ => Iff.rfl) | exact l_go (S := fun _ _ _ _ => _) hs.2 b_rf (fun _ _ _ => ⟨fun z => z.2, fun z => ⟨hs.1, z⟩⟩) | exact l_go (S := fun _ _ _ _ => _) hs.2 b_new (fun _ _ _ => ⟨fun z => z.2, fun z => ⟨hs.1, z⟩⟩) | exact l_end (S := fun _ _ _ _ => _) hs.2 (fun _ _ _ => ⟨fun z => z.2, fun z => ⟨hs.1, z⟩⟩)
theorem l_irem {G : MG} {C : KC} {Q : KQ} {P : KP} {nx : Nat}  {L : Loc'} {st : List V} {h : MH} (hs : s_irem G C Q P nx L st h) : lin G C Q P h (fun G C Q P => s_irem G C Q P nx L st h) := by
  unfold s_irem at *
  split at hs <;> first | exact hs.elim | exact l_go (S := fun _ _ _ _ => _) hs b_rf (fun _ _ _ => Iff.rfl) | exact l_end (S := fun _ _ _ _ => _) hs (fun _ _ _ => Iff.rfl) | exact l_go (S := fun _ _ _ _ => _) hs.2 b_rf (fun _ _ _ => ⟨fun z => z.2, fun z => ⟨hs.1, z⟩⟩) | exact l_go (S := fun _ _ _ _ => _) hs.2 b_new (fun _ _ _ => ⟨fun z => z.2, fun z => ⟨hs.1, z⟩⟩) | exact l_end (S := fun _ _ _ _ => _) hs.2 (fun _ _ _ => ⟨fun z => z.2, fun z => ⟨hs.1, z⟩⟩)
theorem l_ineg {G : MG} {C : KC} {Q : KQ} {P : KP} {nx : Nat}  {L : Loc'} {st : List V} {h : MH} (hs : s_ineg G C Q P nx L st h) : lin G C Q P h (fun G C Q P => s_ineg G C Q P nx L st h) := by
  unfold s_ineg at *
  split at hs <;> first | exact hs.elim | exact l_go (S := fun _ _ _ _ => _) hs b_rf (fun _ _ _ => Iff.rfl) | exact l_end (S := fun _ _ _ _ => _) hs (fun _ _ _ => Iff.rfl) | exact l_go (S := fun _ _ _ _ => _) hs.2 b_rf (fun _ _ _ => ⟨fun z => z.2, fun z => ⟨hs.1, z⟩⟩) | exact l_go (S := fun _ _ _ _ => _) hs.2 b_new (fun _ _ _ => ⟨fun z => z.2, fun z => ⟨hs.1, z⟩⟩) | exact l_end (S := fun _ _ _ _ => _) hs.2 (fun _ _ _ => ⟨fun z => z.2, fun z => ⟨hs.1, z⟩⟩)
theorem l_i2c {G : MG} {C : KC} {Q : KQ} {P : KP} {nx : Nat}  {L : Loc'} {st : List V} {h : MH} (hs : s_i2c G C Q P nx L st h) : lin G C Q P h (fun G C Q P => s_i2c G C Q P nx L st h) := by
  unfold s_i2c at *
  split at hs <;> first | exact hs.elim | exact l_go (S := fun _ _ _ _ => _) hs b_rf (fun _ _ _ => Iff.rfl) | exact l_end (S := fun _ _ _ _ => _) hs (fun _ _ _ => Iff.rfl) | exact l_go (S := fun _ _ _ _ => _) hs.2 b_rf (fun _ _ _ => ⟨fun z => z.2, fun z => ⟨hs.1, z⟩⟩) | exact l_go (S := fun _ _ _ _ => _) hs.2 b_new (fun _ _ _ => ⟨fun z => z.2, fun z => ⟨hs.1, z⟩⟩) | exact l_end (S := fun _ _ _ _ => _) hs.2 (fun _ _ _ => ⟨fun z => z.2, fun z => ⟨hs.1, z⟩⟩)
theorem l_i2b {G : MG} {C : KC} {Q : KQ} {P : KP} {nx : Nat}  {L : Loc'} {st : List V} {h : MH} (hs : s_i2b G C Q P nx L st h) : lin G C Q P h (fun G C Q P => s_i2b G C Q P nx L st h) := by
  unfold s_i2b at *
  split at hs <;> first | exact hs.elim | exact l_go (S := fun _ _ _ _ => _) hs b_rf (fun _ _ _ => Iff.rfl) | exact l_end (S := fun _ _ _ _ => _) hs (fun _ _ _ => Iff.rfl) | exact l_go (S := fun _ _ _ _ => _) hs.2 b_rf (fun _ _ _ => ⟨fun z => z.2, fun z => ⟨hs.1, z⟩⟩) | exact l_go (S := fun _ _ _ _ => _) hs.2 b_new (fun _ _ _ => ⟨fun z => z.2, fun z => ⟨hs.1, z⟩⟩) | exact l_end (S := fun _ _ _ _ => _) hs.2 (fun _ _ _ => ⟨fun z => z.2, fun z => ⟨hs.1, z⟩⟩)
theorem l_i2l {G : MG} {C : KC} {Q : KQ} {P : KP} {nx : Nat}  {L : Loc'} {st : List V} {h : MH} (hs : s_i2l G C Q P nx L st h) : lin G C Q P h (fun G C Q P => s_i2l G C Q P nx L st h) := by
  unfold s_i2l at *
  split at hs <;> first | exact hs.elim | exact l_go (S := fun _ _ _ _ => _) hs b_rf (fun _ _ _ => Iff.rfl) | exact l_end (S := fun _ _ _ _ => _) hs (fun _ _ _ => Iff.rfl) | exact l_go (S := fun _ _ _ _ => _) hs.2 b_rf (fun _ _ _ => ⟨fun z => z.2, fun z => ⟨hs.1, z⟩⟩) | exact l_go (S := fun _ _ _ _ => _) hs.2 b_new (fun _ _ _ => ⟨fun z => z.2, fun z => ⟨hs.1, z⟩⟩) | exact l_end (S := fun _ _ _ _ => _) hs.2 (fun _ _ _ => ⟨fun z => z.2, fun z => ⟨hs.1, z⟩⟩)
theorem l_ladd {G : MG} {C : KC} {Q : KQ} {P : KP} {nx : Nat}  {L : Loc'} {st : List V} {h : MH} (hs : s_ladd G C Q P nx L st h) : lin G C Q P h (fun G C Q P => s_ladd G C Q P nx L st h) := by
  unfold s_ladd at *
  split at hs <;> first | exact hs.elim | exact l_go (S := fun _ _ _ _ => _) hs b_rf (fun _ _ _ => Iff.rfl) | exact l_end (S := fun _ _ _ _ => _) hs (fun _ _ _ => Iff.rfl) | exact l_go (S := fun _ _ _ _ => _) hs.2 b_rf (fun _ _ _ => ⟨fun z => z.2, fun z => ⟨hs.1, z⟩⟩) | exact l_go (S := fun _ _ _ _ => _) hs.2 b_new (fun _ _ _ => ⟨fun z => z.2, fun z => ⟨hs.1, z⟩⟩) | exact l_end (S := fun _ _ _ _ => _) hs.2 (fun _ _ _ => ⟨fun z => z.2, fun z => ⟨hs.1, z⟩⟩)
theorem l_lneg {G : MG} {C : KC} {Q : KQ} {P : KP} {nx : Nat}  {L : Loc'} {st : List V} {h : MH} (hs : s_lneg G C Q P nx L st h) : lin G C Q P h (fun G C Q P => s_lneg G C Q P nx L st h) := by
  unfold s_lneg at *
  split at hs <;> first | exact hs.elim | exact l_go (S := fun _ _ _ _ => _) hs b_rf (fun _ _ _ => Iff.rfl) | exact l_end (S := fun _ _ _ _ => _) hs (fun _ _ _ => Iff.rfl) | exact l_go (S := fun _ _ _ _ => _) hs.2 b_rf (fun _ _ _ => ⟨fun z => z.2, fun z => ⟨hs.1, z⟩⟩) | exact l_go (S := fun _ _ _ _ => _) hs.2 b_new (fun _ _ _ => ⟨fun z => z.2, fun z => ⟨hs.1, z⟩⟩) | exact l_end (S := fun _ _ _ _ => _) hs.2 (fun _ _ _ => ⟨fun z => z.2, fun z => ⟨hs.1, z⟩⟩)
theorem l_lrem {G : MG} {C : KC} {Q : KQ} {P : KP} {nx : Nat}  {L : Loc'} {st : List V} {h : MH} (hs : s_lrem G C Q P nx L st h) : lin G C Q P h (fun G C Q P => s_lrem G C Q P nx L st h) := by
  unfold s_lrem at *
  split at hs <;> first | exact hs.elim | exact l_go (S := fun _ _ _ _ => _) hs b_rf (fun _ _ _ => Iff.rfl) | exact l_end (S := fun _ _ _ _ => _) hs (fun _ _ _ => Iff.rfl) | exact l_go (S := fun _ _ _ _ => _) hs.2 b_rf (fun _ _ _ => ⟨fun z => z.2, fun z => ⟨hs.1, z⟩⟩) | exact l_go (S := fun _ _ _ _ => _) hs.2 b_new (fun _ _ _ => ⟨fun z => z.2, fun z => ⟨hs.1, z⟩⟩) | exact l_end (S := fun _ _ _ _ => _) hs.2 (fun _ _ _ => ⟨fun z => z.2, fun z => ⟨hs.1, z⟩⟩)
theorem l_ldiv {G : MG} {C : KC} {Q : KQ} {P : KP} {nx : Nat}  {L : Loc'} {st : List V} {h : MH} (hs : s_ldiv G C Q P nx L st h) : lin G C Q P h (fun G C Q P => s_ldiv G C Q P nx L st h) := by
  unfold s_ldiv at *
  split at hs <;> first | exact hs.elim | exact l_go (S := fun _ _ _ _ => _) hs b_rf (fun _ _ _ => Iff.rfl) | exact l_end (S := fun _ _ _ _ => _) hs (fun _ _ _ => Iff.rfl) | exact l_go (S := fun _ _ _ _ => _) hs.2 b_rf (fun _ _ _ => ⟨fun z => z.2, fun z => ⟨hs.1, z⟩⟩) | exact l_go (S := fun _ _ _ _ => _) hs.2 b_new (fun _ _ _ => ⟨fun z => z.2, fun z => ⟨hs.1, z⟩⟩) | exact l_end (S := fun _ _ _ _ => _) hs.2 (fun _ _ _ => ⟨fun z => z.2, fun z => ⟨hs.1, z⟩⟩)
theorem l_lcmp {G : MG} {C : KC} {Q : KQ} {P : KP} {nx : Nat}  {L : Loc'} {st : List V} {h : MH} (hs : s_lcmp G C Q P nx L st h) : lin G C Q P h (fun G C Q P => s_lcmp G C Q P nx L st h) := by
  unfold s_lcmp at *
  split at hs <;> first | exact hs.elim | exact l_go (S := fun _ _ _ _ => _) hs b_rf (fun _ _ _ => Iff.rfl) | exact l_end (S := fun _ _ _ _ => _) hs (fun _ _ _ => Iff.rfl) | exact l_go (S := fun _ _ _ _ => _) hs.2 b_rf (fun _ _ _ => ⟨fun z => z.2, fun z => ⟨hs.1, z⟩⟩) | exact l_go (S := fun _ _ _ _ => _) hs.2 b_new (fun _ _ _ => ⟨fun z => z.2, fun z => ⟨hs.1, z⟩⟩) | exact l_end (S := fun _ _ _ _ => _) hs.2 (fun _ _ _ => ⟨fun z => z.2, fun z => ⟨hs.1, z⟩⟩)
theorem l_dup {G : MG} {C : KC} {Q : KQ} {P : KP} {nx : Nat}  {L : Loc'} {st : List V} {h : MH} (hs : s_dup G C Q P nx L st h) : lin G C Q P h (fun G C Q P => s_dup G C Q P nx L st h) := by
  unfold s_dup at *
  split at hs <;> first | exact hs.elim | exact l_go (S := fun _ _ _ _ => _) hs b_rf (fun _ _ _ => Iff.rfl) | exact l_end (S := fun _ _ _ _ => _) hs (fun _ _ _ => Iff.rfl) | exact l_go (S := fun _ _ _ _ => _) hs.2 b_rf (fun _ _ _ => ⟨fun z => z.2, fun z => ⟨hs.1, z⟩⟩) | exact l_go (S := fun _ _ _ _ => _) hs.2 b_new (fun _ _ _ => ⟨fun z => z.2, fun z => ⟨hs.1, z⟩⟩) | exact l_end (S := fun _ _ _ _ => _) hs.2 (fun _ _ _ => ⟨fun z => z.2, fun z => ⟨hs.1, z⟩⟩)
theorem l_pop {G : MG} {C : KC} {Q : KQ} {P : KP} {nx : Nat}  {L : Loc'} {st : List V} {h : MH} (hs : s_pop G C Q P nx L st h) : lin G C Q P h (fun G C Q P => s_pop G C Q P nx L st h) := by
  unfold s_pop at *
  split at hs <;> first | exact hs.elim | exact l_go (S := fun _ _ _ _ => _) hs b_rf (fun _ _ _ => Iff.rfl) | exact l_end (S := fun _ _ _ _ => _) hs (fun _ _ _ => Iff.rfl) | exact l_go (S := fun _ _ _ _ => _) hs.2 b_rf (fun _ _ _ => ⟨fun z => z.2, fun z => ⟨hs.1, z⟩⟩) | exact l_go (S := fun _ _ _ _ => _) hs.2 b_new (fun _ _ _ => ⟨fun z => z.2, fun z => ⟨hs.1, z⟩⟩) | exact l_end (S := fun _ _ _ _ => _) hs.2 (fun _ _ _ => ⟨fun z => z.2, fun z => ⟨hs.1, z⟩⟩)
theorem l_dupx1 {G : MG} {C : KC} {Q : KQ} {P : KP} {nx : Nat}  {L : Loc'} {st : List V} {h : MH} (hs : s_dupx1 G C Q P nx L st h) : lin G C Q P h (fun G C Q P => s_dupx1 G C Q P nx L st h) := by
  unfold s_dupx1 at *
  split at hs <;> first | exact hs.elim | exact l_go (S := fun _ _ _ _ => _) hs b_rf (fun _ _ _ => Iff.rfl) | exact l_end (S := fun _ _ _ _ => _) hs (fun _ _ _ => Iff.rfl) | exact l_go (S := fun _ _ _ _ => _) hs.2 b_rf (fun _ _ _ => ⟨fun z => z.2, fun z => ⟨hs.1, z⟩⟩) | exact l_go (S := fun _ _ _ _ => _) hs.2 b_new (fun _ _ _ => ⟨fun z => z.2, fun z => ⟨hs.1, z⟩⟩) | exact l_end (S := fun _ _ _ _ => _) hs.2 (fun _ _ _ => ⟨fun z => z.2, fun z => ⟨hs.1, z⟩⟩)
theorem l_dup2 {G : MG} {C : KC} {Q : KQ} {P : KP} {nx : Nat}  {L : Loc'} {st : List V} {h : MH} (hs : s_dup2 G C Q P nx L st h) : lin G C Q P h (fun G C Q P => s_dup2 G C Q P nx L st h) := by
  unfold s_dup2 at *
  split at hs <;> first | exact hs.elim | exact l_go (S := fun _ _ _ _ => _) hs b_rf (fun _ _ _ => Iff.rfl) | exact l_end (S := fun _ _ _ _ => _) hs (fun _ _ _ => Iff.rfl) | exact l_go (S := fun _ _ _ _ => _) hs.2 b_rf (fun _ _ _ => ⟨fun z => z.2, fun z => ⟨hs.1, z⟩⟩) | exact l_go (S := fun _ _ _ _ => _) hs.2 b_new (fun _ _ _ => ⟨fun z => z.2, fun z => ⟨hs.1, z⟩⟩) | exact l_end (S := fun _ _ _ _ => _) hs.2 (fun _ _ _ => ⟨fun z => z.2, fun z => ⟨hs.1, z⟩⟩)
theorem l_ifc {G : MG} {C : KC} {Q : KQ} {P : KP} {nx : Nat} {k : ClassFile.Cond} {t : Nat} {L : Loc'} {st : List V} {h : MH} (hs : s_ifc G C Q P nx k t L st h) : lin G C Q P h (fun G C Q P => s_ifc G C Q P nx k t L st h) := by
  unfold s_ifc at *
  split at hs
  · obtain ⟨h1, h2⟩ := hs
    refine (Classical.em _).elim (fun c => l_go (S := fun _ _ _ _ => _) (h1 c) b_rf (fun _ _ _ => ⟨fun z => z.1 c, fun z => ⟨fun _ => z, fun q => absurd c q⟩⟩)) (fun c => l_go (S := fun _ _ _ _ => _) (h2 c) b_rf (fun _ _ _ => ⟨fun z => z.2 c, fun z => ⟨fun q => absurd q c, fun _ => z⟩⟩))
  · exact hs.elim
theorem l_icmp {G : MG} {C : KC} {Q : KQ} {P : KP} {nx : Nat} {k : ClassFile.Cond} {t : Nat} {L : Loc'} {st : List V} {h : MH} (hs : s_icmp G C Q P nx k t L st h) : lin G C Q P h (fun G C Q P => s_icmp G C Q P nx k t L st h) := by
  unfold s_icmp at *
  split at hs
  · obtain ⟨h1, h2⟩ := hs
    refine (Classical.em _).elim (fun c => l_go (S := fun _ _ _ _ => _) (h1 c) b_rf (fun _ _ _ => ⟨fun z => z.1 c, fun z => ⟨fun _ => z, fun q => absurd c q⟩⟩)) (fun c => l_go (S := fun _ _ _ _ => _) (h2 c) b_rf (fun _ _ _ => ⟨fun z => z.2 c, fun z => ⟨fun q => absurd q c, fun _ => z⟩⟩))
  · exact hs.elim
theorem l_ifnull {G : MG} {C : KC} {Q : KQ} {P : KP} {nx : Nat} {t : Nat} {L : Loc'} {st : List V} {h : MH} (hs : s_ifnull G C Q P nx t L st h) : lin G C Q P h (fun G C Q P => s_ifnull G C Q P nx t L st h) := by
  unfold s_ifnull at *
  split at hs
  · obtain ⟨h1, h2⟩ := hs
    refine (Classical.em _).elim (fun c => l_go (S := fun _ _ _ _ => _) (h1 c) b_rf (fun _ _ _ => ⟨fun z => z.1 c, fun z => ⟨fun _ => z, fun q => absurd c q⟩⟩)) (fun c => l_go (S := fun _ _ _ _ => _) (h2 c) b_rf (fun _ _ _ => ⟨fun z => z.2 c, fun z => ⟨fun q => absurd q c, fun _ => z⟩⟩))
  · exact hs.elim
theorem l_ifnn {G : MG} {C : KC} {Q : KQ} {P : KP} {nx : Nat} {t : Nat} {L : Loc'} {st : List V} {h : MH} (hs : s_ifnn G C Q P nx t L st h) : lin G C Q P h (fun G C Q P => s_ifnn G C Q P nx t L st h) := by
  unfold s_ifnn at *
  split at hs
  · obtain ⟨h1, h2⟩ := hs
    refine (Classical.em _).elim (fun c => l_go (S := fun _ _ _ _ => _) (h1 c) b_rf (fun _ _ _ => ⟨fun z => z.1 c, fun z => ⟨fun _ => z, fun q => absurd c q⟩⟩)) (fun c => l_go (S := fun _ _ _ _ => _) (h2 c) b_rf (fun _ _ _ => ⟨fun z => z.2 c, fun z => ⟨fun q => absurd q c, fun _ => z⟩⟩))
  · exact hs.elim
theorem l_acmp {G : MG} {C : KC} {Q : KQ} {P : KP} {nx : Nat} {te tn : Nat} {L : Loc'} {st : List V} {h : MH} (hs : s_acmp G C Q P nx te tn L st h) : lin G C Q P h (fun G C Q P => s_acmp G C Q P nx te tn L st h) := by
  unfold s_acmp at *
  split at hs
  · obtain ⟨h1, h2⟩ := hs
    refine (Classical.em _).elim (fun c => l_go (S := fun _ _ _ _ => _) (h1 c) b_rf (fun _ _ _ => ⟨fun z => z.1 c, fun z => ⟨fun _ => z, fun q => absurd c q⟩⟩)) (fun c => l_go (S := fun _ _ _ _ => _) (h2 c) b_rf (fun _ _ _ => ⟨fun z => z.2 c, fun z => ⟨fun q => absurd q c, fun _ => z⟩⟩))
  · exact hs.elim
theorem l_goto {G : MG} {C : KC} {Q : KQ} {P : KP} {nx : Nat} {t : Nat} {L : Loc'} {st : List V} {h : MH} (hs : s_goto G C Q P nx t L st h) : lin G C Q P h (fun G C Q P => s_goto G C Q P nx t L st h) := by
  exact l_go (S := fun G C Q P => s_goto G C Q P nx t L st h) hs b_rf (fun _ _ _ => Iff.rfl)
theorem l_swi {G : MG} {C : KC} {Q : KQ} {P : KP} {nx : Nat} {f : Int → Nat} {L : Loc'} {st : List V} {h : MH} (hs : s_swi G C Q P nx f L st h) : lin G C Q P h (fun G C Q P => s_swi G C Q P nx f L st h) := by
  unfold s_swi at *
  split at hs <;> first | exact hs.elim | exact l_go (S := fun _ _ _ _ => _) hs b_rf (fun _ _ _ => Iff.rfl) | exact l_end (S := fun _ _ _ _ => _) hs (fun _ _ _ => Iff.rfl) | exact l_go (S := fun _ _ _ _ => _) hs.2 b_rf (fun _ _ _ => ⟨fun z => z.2, fun z => ⟨hs.1, z⟩⟩) | exact l_go (S := fun _ _ _ _ => _) hs.2 b_new (fun _ _ _ => ⟨fun z => z.2, fun z => ⟨hs.1, z⟩⟩) | exact l_end (S := fun _ _ _ _ => _) hs.2 (fun _ _ _ => ⟨fun z => z.2, fun z => ⟨hs.1, z⟩⟩)
theorem l_getf {G : MG} {C : KC} {Q : KQ} {P : KP} {nx : Nat} {k w : Nat} {L : Loc'} {st : List V} {h : MH} (hs : s_getf G C Q P nx k w L st h) : lin G C Q P h (fun G C Q P => s_getf G C Q P nx k w L st h) := by
  unfold s_getf at *
  split at hs <;> first | exact hs.elim | (obtain ⟨_, h2, f⟩ := xGet_pt hs; exact l_go (S := fun _ _ _ _ => _) h2 b_rf (fun _ _ _ => f _))
theorem l_putf {G : MG} {C : KC} {Q : KQ} {P : KP} {nx : Nat} {k w ty : Nat} {L : Loc'} {st : List V} {h : MH} (hs : s_putf G C Q P nx k w ty L st h) : lin G C Q P h (fun G C Q P => s_putf G C Q P nx k w ty L st h) := by
  unfold s_putf at *
  split at hs <;> first | exact hs.elim | (obtain ⟨h1, hs⟩ := hs; obtain ⟨_, h2, f⟩ := xPut_pt hs; exact l_go (S := fun _ _ _ _ => _) h2 b_rf (fun _ _ _ => ⟨fun z => (f _).mp z.2, fun z => ⟨h1, (f _).mpr z⟩⟩))
theorem l_iald {G : MG} {C : KC} {Q : KQ} {P : KP} {nx : Nat}  {L : Loc'} {st : List V} {h : MH} (hs : s_iald G C Q P nx L st h) : lin G C Q P h (fun G C Q P => s_iald G C Q P nx L st h) := by
  unfold s_iald at *
  split at hs <;> first | exact hs.elim | (obtain ⟨_, h2, f⟩ := xAld_pt hs; exact l_go (S := fun _ _ _ _ => _) h2 b_rf (fun _ _ _ => f _))
theorem l_bald {G : MG} {C : KC} {Q : KQ} {P : KP} {nx : Nat}  {L : Loc'} {st : List V} {h : MH} (hs : s_bald G C Q P nx L st h) : lin G C Q P h (fun G C Q P => s_bald G C Q P nx L st h) := by
  unfold s_bald at *
  split at hs <;> first | exact hs.elim | (obtain ⟨_, h2, f⟩ := xAld_pt hs; exact l_go (S := fun _ _ _ _ => _) h2 b_rf (fun _ _ _ => f _))
theorem l_aald {G : MG} {C : KC} {Q : KQ} {P : KP} {nx : Nat}  {L : Loc'} {st : List V} {h : MH} (hs : s_aald G C Q P nx L st h) : lin G C Q P h (fun G C Q P => s_aald G C Q P nx L st h) := by
  unfold s_aald at *
  split at hs <;> first | exact hs.elim | (obtain ⟨_, h2, f⟩ := xRld_pt hs; exact l_go (S := fun _ _ _ _ => _) h2 b_rf (fun _ _ _ => f _))
theorem l_iast {G : MG} {C : KC} {Q : KQ} {P : KP} {nx : Nat}  {L : Loc'} {st : List V} {h : MH} (hs : s_iast G C Q P nx L st h) : lin G C Q P h (fun G C Q P => s_iast G C Q P nx L st h) := by
  unfold s_iast at *
  split at hs <;> first | exact hs.elim | (obtain ⟨_, h2, f⟩ := xAst_pt hs; exact l_go (S := fun _ _ _ _ => _) h2 b_rf (fun _ _ _ => f _))
theorem l_bast {G : MG} {C : KC} {Q : KQ} {P : KP} {nx : Nat}  {L : Loc'} {st : List V} {h : MH} (hs : s_bast G C Q P nx L st h) : lin G C Q P h (fun G C Q P => s_bast G C Q P nx L st h) := by
  unfold s_bast at *
  split at hs <;> first | exact hs.elim | (obtain ⟨h1, hs⟩ := hs; obtain ⟨_, h2, f⟩ := xAst_pt hs; exact l_go (S := fun _ _ _ _ => _) h2 b_rf (fun _ _ _ => ⟨fun z => (f _).mp z.2, fun z => ⟨h1, (f _).mpr z⟩⟩))
theorem l_aast {G : MG} {C : KC} {Q : KQ} {P : KP} {nx : Nat}  {L : Loc'} {st : List V} {h : MH} (hs : s_aast G C Q P nx L st h) : lin G C Q P h (fun G C Q P => s_aast G C Q P nx L st h) := by
  unfold s_aast at *
  split at hs <;> first | exact hs.elim | (obtain ⟨h1, hs⟩ := hs; obtain ⟨_, h2, f⟩ := xRst_pt hs; exact l_go (S := fun _ _ _ _ => _) h2 b_rf (fun _ _ _ => ⟨fun z => (f _).mp z.2, fun z => ⟨h1, (f _).mpr z⟩⟩))
theorem l_alen {G : MG} {C : KC} {Q : KQ} {P : KP} {nx : Nat}  {L : Loc'} {st : List V} {h : MH} (hs : s_alen G C Q P nx L st h) : lin G C Q P h (fun G C Q P => s_alen G C Q P nx L st h) := by
  unfold s_alen at *
  split at hs <;> first | exact hs.elim | (obtain ⟨_, h2, f⟩ := xLen_pt hs; exact l_go (S := fun _ _ _ _ => _) h2 b_rf (fun _ _ _ => f _))
theorem l_new {G : MG} {C : KC} {Q : KQ} {P : KP} {nx : Nat} {t : Nat} {L : Loc'} {st : List V} {h : MH} (hs : s_new G C Q P nx t L st h) : lin G C Q P h (fun G C Q P => s_new G C Q P nx t L st h) := by
  exact l_go (S := fun G C Q P => s_new G C Q P nx t L st h) hs.2 b_new (fun _ _ _ => ⟨fun z => z.2, fun z => ⟨hs.1, z⟩⟩)
theorem l_newa {G : MG} {C : KC} {Q : KQ} {P : KP} {nx : Nat} {ty : Nat} {L : Loc'} {st : List V} {h : MH} (hs : s_newa G C Q P nx ty L st h) : lin G C Q P h (fun G C Q P => s_newa G C Q P nx ty L st h) := by
  unfold s_newa at *
  split at hs <;> first | exact hs.elim | exact l_go (S := fun _ _ _ _ => _) hs b_rf (fun _ _ _ => Iff.rfl) | exact l_end (S := fun _ _ _ _ => _) hs (fun _ _ _ => Iff.rfl) | exact l_go (S := fun _ _ _ _ => _) hs.2 b_rf (fun _ _ _ => ⟨fun z => z.2, fun z => ⟨hs.1, z⟩⟩) | exact l_go (S := fun _ _ _ _ => _) hs.2 b_new (fun _ _ _ => ⟨fun z => z.2, fun z => ⟨hs.1, z⟩⟩) | exact l_end (S := fun _ _ _ _ => _) hs.2 (fun _ _ _ => ⟨fun z => z.2, fun z => ⟨hs.1, z⟩⟩)
theorem l_anew {G : MG} {C : KC} {Q : KQ} {P : KP} {nx : Nat}  {L : Loc'} {st : List V} {h : MH} (hs : s_anew G C Q P nx L st h) : lin G C Q P h (fun G C Q P => s_anew G C Q P nx L st h) := by
  unfold s_anew at *
  split at hs <;> first | exact hs.elim | exact l_go (S := fun _ _ _ _ => _) hs b_rf (fun _ _ _ => Iff.rfl) | exact l_end (S := fun _ _ _ _ => _) hs (fun _ _ _ => Iff.rfl) | exact l_go (S := fun _ _ _ _ => _) hs.2 b_rf (fun _ _ _ => ⟨fun z => z.2, fun z => ⟨hs.1, z⟩⟩) | exact l_go (S := fun _ _ _ _ => _) hs.2 b_new (fun _ _ _ => ⟨fun z => z.2, fun z => ⟨hs.1, z⟩⟩) | exact l_end (S := fun _ _ _ _ => _) hs.2 (fun _ _ _ => ⟨fun z => z.2, fun z => ⟨hs.1, z⟩⟩)
theorem l_cast {G : MG} {C : KC} {Q : KQ} {P : KP} {nx : Nat} {w : Nat} {L : Loc'} {st : List V} {h : MH} (hs : s_cast G C Q P nx w L st h) : lin G C Q P h (fun G C Q P => s_cast G C Q P nx w L st h) := by
  unfold s_cast at *
  split at hs <;> first | exact hs.elim | (obtain ⟨_, h2, f⟩ := xTag_pt hs; exact l_go (S := fun _ _ _ _ => _) h2.2 b_rf (fun _ _ _ => ⟨fun z => ((f _).mp z).2, fun z => (f _).mpr ⟨h2.1, z⟩⟩))
theorem l_casta {G : MG} {C : KC} {Q : KQ} {P : KP} {nx : Nat}  {L : Loc'} {st : List V} {h : MH} (hs : s_casta G C Q P nx L st h) : lin G C Q P h (fun G C Q P => s_casta G C Q P nx L st h) := by
  unfold s_casta at *
  split at hs <;> first | exact hs.elim | (obtain ⟨h2, f⟩ := xRow_pt hs; exact l_go (S := fun _ _ _ _ => _) h2 b_rf (fun _ _ _ => f _))
theorem l_inst {G : MG} {C : KC} {Q : KQ} {P : KP} {nx : Nat} {w : Nat} {L : Loc'} {st : List V} {h : MH} (hs : s_inst G C Q P nx w L st h) : lin G C Q P h (fun G C Q P => s_inst G C Q P nx w L st h) := by
  unfold s_inst at *
  split at hs <;> first | exact hs.elim | (obtain ⟨_, h2, f⟩ := xTag_pt hs; exact l_go (S := fun _ _ _ _ => _) h2.2 b_rf (fun _ _ _ => ⟨fun z => ((f _).mp z).2, fun z => (f _).mpr ⟨h2.1, z⟩⟩))
theorem l_virt {G : MG} {C : KC} {Q : KQ} {P : KP} {nx : Nat} {x n : Nat} {L : Loc'} {st : List V} {h : MH} (hs : s_virt G C Q P nx x n L st h) : lin G C Q P h (fun G C Q P => s_virt G C Q P nx x n L st h) := by
  unfold s_virt at *
  obtain ⟨h1, h2⟩ := hs
  split at h2
  · obtain ⟨t, h2, f⟩ := xTag_pt h2
    obtain ⟨y, h2, g⟩ := xSel_pt h2
    exact l_call (S := fun _ _ _ _ => _) h2 (fun _ _ _ => ⟨fun z => (g _).mp ((f _).mp z.2), fun z => ⟨h1, (f _).mpr ((g _).mpr z)⟩⟩)
  · exact h2.elim
theorem l_stat {G : MG} {C : KC} {Q : KQ} {P : KP} {nx : Nat} {y n : Nat} {L : Loc'} {st : List V} {h : MH} (hs : s_stat G C Q P nx y n L st h) : lin G C Q P h (fun G C Q P => s_stat G C Q P nx y n L st h) := by
  exact l_call (S := fun G C Q P => s_stat G C Q P nx y n L st h) hs.2 (fun _ _ _ => ⟨fun z => z.2, fun z => ⟨hs.1, z⟩⟩)
theorem l_spec {G : MG} {C : KC} {Q : KQ} {P : KP} {nx : Nat} {y n : Nat} {L : Loc'} {st : List V} {h : MH} (hs : s_spec G C Q P nx y n L st h) : lin G C Q P h (fun G C Q P => s_spec G C Q P nx y n L st h) := by
  unfold s_spec at *
  obtain ⟨h1, h2⟩ := hs
  split at h2
  · obtain ⟨t, h2, f⟩ := xTag_pt h2
    exact l_call (S := fun _ _ _ _ => _) h2.2 (fun _ _ _ => ⟨fun z => ((f _).mp z.2).2, fun z => ⟨h1, (f _).mpr ⟨h2.1, z⟩⟩⟩)
  · exact h2.elim
theorem l_oini {G : MG} {C : KC} {Q : KQ} {P : KP} {nx : Nat}  {L : Loc'} {st : List V} {h : MH} (hs : s_oini G C Q P nx L st h) : lin G C Q P h (fun G C Q P => s_oini G C Q P nx L st h) := by
  unfold s_oini at *
  split at hs <;> first | exact hs.elim | exact l_go (S := fun _ _ _ _ => _) hs b_rf (fun _ _ _ => Iff.rfl) | exact l_end (S := fun _ _ _ _ => _) hs (fun _ _ _ => Iff.rfl) | exact l_go (S := fun _ _ _ _ => _) hs.2 b_rf (fun _ _ _ => ⟨fun z => z.2, fun z => ⟨hs.1, z⟩⟩) | exact l_go (S := fun _ _ _ _ => _) hs.2 b_new (fun _ _ _ => ⟨fun z => z.2, fun z => ⟨hs.1, z⟩⟩) | exact l_end (S := fun _ _ _ _ => _) hs.2 (fun _ _ _ => ⟨fun z => z.2, fun z => ⟨hs.1, z⟩⟩)
theorem l_iret {G : MG} {C : KC} {Q : KQ} {P : KP} {nx : Nat} {ty : Nat} {L : Loc'} {st : List V} {h : MH} (hs : s_iret G C Q P nx ty L st h) : lin G C Q P h (fun G C Q P => s_iret G C Q P nx ty L st h) := by
  unfold s_iret at *
  split at hs <;> first | exact hs.elim | exact l_go (S := fun _ _ _ _ => _) hs b_rf (fun _ _ _ => Iff.rfl) | exact l_end (S := fun _ _ _ _ => _) hs (fun _ _ _ => Iff.rfl) | exact l_go (S := fun _ _ _ _ => _) hs.2 b_rf (fun _ _ _ => ⟨fun z => z.2, fun z => ⟨hs.1, z⟩⟩) | exact l_go (S := fun _ _ _ _ => _) hs.2 b_new (fun _ _ _ => ⟨fun z => z.2, fun z => ⟨hs.1, z⟩⟩) | exact l_end (S := fun _ _ _ _ => _) hs.2 (fun _ _ _ => ⟨fun z => z.2, fun z => ⟨hs.1, z⟩⟩)
theorem l_lret {G : MG} {C : KC} {Q : KQ} {P : KP} {nx : Nat}  {L : Loc'} {st : List V} {h : MH} (hs : s_lret G C Q P nx L st h) : lin G C Q P h (fun G C Q P => s_lret G C Q P nx L st h) := by
  unfold s_lret at *
  split at hs <;> first | exact hs.elim | exact l_go (S := fun _ _ _ _ => _) hs b_rf (fun _ _ _ => Iff.rfl) | exact l_end (S := fun _ _ _ _ => _) hs (fun _ _ _ => Iff.rfl) | exact l_go (S := fun _ _ _ _ => _) hs.2 b_rf (fun _ _ _ => ⟨fun z => z.2, fun z => ⟨hs.1, z⟩⟩) | exact l_go (S := fun _ _ _ _ => _) hs.2 b_new (fun _ _ _ => ⟨fun z => z.2, fun z => ⟨hs.1, z⟩⟩) | exact l_end (S := fun _ _ _ _ => _) hs.2 (fun _ _ _ => ⟨fun z => z.2, fun z => ⟨hs.1, z⟩⟩)
theorem l_aret {G : MG} {C : KC} {Q : KQ} {P : KP} {nx : Nat}  {L : Loc'} {st : List V} {h : MH} (hs : s_aret G C Q P nx L st h) : lin G C Q P h (fun G C Q P => s_aret G C Q P nx L st h) := by
  unfold s_aret at *
  split at hs <;> first | exact hs.elim | exact l_go (S := fun _ _ _ _ => _) hs b_rf (fun _ _ _ => Iff.rfl) | exact l_end (S := fun _ _ _ _ => _) hs (fun _ _ _ => Iff.rfl) | exact l_go (S := fun _ _ _ _ => _) hs.2 b_rf (fun _ _ _ => ⟨fun z => z.2, fun z => ⟨hs.1, z⟩⟩) | exact l_go (S := fun _ _ _ _ => _) hs.2 b_new (fun _ _ _ => ⟨fun z => z.2, fun z => ⟨hs.1, z⟩⟩) | exact l_end (S := fun _ _ _ _ => _) hs.2 (fun _ _ _ => ⟨fun z => z.2, fun z => ⟨hs.1, z⟩⟩)
theorem l_vret {G : MG} {C : KC} {Q : KQ} {P : KP} {nx : Nat}  {L : Loc'} {st : List V} {h : MH} (hs : s_vret G C Q P nx L st h) : lin G C Q P h (fun G C Q P => s_vret G C Q P nx L st h) := by
  unfold s_vret at *
  split at hs <;> first | exact hs.elim | exact l_go (S := fun _ _ _ _ => _) hs b_rf (fun _ _ _ => Iff.rfl) | exact l_end (S := fun _ _ _ _ => _) hs (fun _ _ _ => Iff.rfl) | exact l_go (S := fun _ _ _ _ => _) hs.2 b_rf (fun _ _ _ => ⟨fun z => z.2, fun z => ⟨hs.1, z⟩⟩) | exact l_go (S := fun _ _ _ _ => _) hs.2 b_new (fun _ _ _ => ⟨fun z => z.2, fun z => ⟨hs.1, z⟩⟩) | exact l_end (S := fun _ _ _ _ => _) hs.2 (fun _ _ _ => ⟨fun z => z.2, fun z => ⟨hs.1, z⟩⟩)
theorem l_cpya {G : MG} {C : KC} {Q : KQ} {P : KP} {nx : Nat}  {L : Loc'} {st : List V} {h : MH} (hs : s_cpya G C Q P nx L st h) : lin G C Q P h (fun G C Q P => s_cpya G C Q P nx L st h) := by
  unfold s_cpya at *
  split at hs <;> first | exact hs.elim | (obtain ⟨h1, hs⟩ := hs; obtain ⟨_, h2, f⟩ := xCpy_pt hs; exact l_go (S := fun _ _ _ _ => _) h2 b_rf (fun _ _ _ => ⟨fun z => (f _).mp z.2, fun z => ⟨h1, (f _).mpr z⟩⟩))
theorem l_cln {G : MG} {C : KC} {Q : KQ} {P : KP} {nx : Nat}  {L : Loc'} {st : List V} {h : MH} (hs : s_cln G C Q P nx L st h) : lin G C Q P h (fun G C Q P => s_cln G C Q P nx L st h) := by
  unfold s_cln at *
  split at hs <;> first | exact hs.elim | (obtain ⟨h1, hs⟩ := hs; obtain ⟨_, _, h2, f⟩ := xCln_pt hs; exact l_go (S := fun _ _ _ _ => _) h2.2 b_new (fun _ _ _ => ⟨fun z => ((f _).mp z.2).2, fun z => ⟨h1, (f _).mpr ⟨h2.1, z⟩⟩⟩))
theorem l_gref {G : MG} {C : KC} {Q : KQ} {P : KP} {nx : Nat} {k : Nat} {L : Loc'} {st : List V} {h : MH} (hs : s_gref G C Q P nx k L st h) : lin G C Q P h (fun G C Q P => s_gref G C Q P nx k L st h) := by
  exact l_go (S := fun G C Q P => s_gref G C Q P nx k L st h) hs b_rf (fun _ _ _ => Iff.rfl)
theorem l_gets {G : MG} {C : KC} {Q : KQ} {P : KP} {nx : Nat} {k : Nat} {L : Loc'} {st : List V} {h : MH} (hs : s_gets G C Q P nx k L st h) : lin G C Q P h (fun G C Q P => s_gets G C Q P nx k L st h) := by
  unfold s_gets at *
  split at hs <;> first | exact hs.elim | (obtain ⟨_, h2, f⟩ := xRoS_pt hs; exact l_go (S := fun _ _ _ _ => _) h2 b_rf (fun _ _ _ => f _))
theorem l_vstr {G : MG} {C : KC} {Q : KQ} {P : KP} {nx : Nat} {y n : Nat} {L : Loc'} {st : List V} {h : MH} (hs : s_vstr G C Q P nx y n L st h) : lin G C Q P h (fun G C Q P => s_vstr G C Q P nx y n L st h) := by
  unfold s_vstr at *
  obtain ⟨h1, h2⟩ := hs
  split at h2
  · obtain ⟨t, h2, f⟩ := xRoS_pt h2
    exact l_call (S := fun _ _ _ _ => _) h2 (fun _ _ _ => ⟨fun z => (f _).mp z.2, fun z => ⟨h1, (f _).mpr z⟩⟩)
  · exact h2.elim
theorem l_gopt {G : MG} {C : KC} {Q : KQ} {P : KP} {nx : Nat}  {L : Loc'} {st : List V} {h : MH} (hs : s_gopt G C Q P nx L st h) : lin G C Q P h (fun G C Q P => s_gopt G C Q P nx L st h) := by
  exact l_go (S := fun G C Q P => s_gopt G C Q P nx L st h) hs b_rf (fun _ _ _ => Iff.rfl)
theorem stp_lin {G : MG} {C : KC} {Q : KQ} {P : KP} {pc : Nat} {i : Option (Nat × Instr × Int × List Nat)} {L : Loc'} {st : List V} {h : MH} (hs : stp G C Q P pc i L st h) : lin G C Q P h (fun G C Q P => stp G C Q P pc i L st h) := by
  rcases i with _ | ⟨nx, ins, v, o⟩
  · exact hs.elim
  cases ins with
  | iconst a0 => exact l_cst (G := G) (C := C) (Q := Q) (P := P) (nx := nx) (L := L) (st := st) (h := h) hs
  | bipush a0 => exact l_cst (G := G) (C := C) (Q := Q) (P := P) (nx := nx) (L := L) (st := st) (h := h) hs
  | sipush a0 => exact l_cst (G := G) (C := C) (Q := Q) (P := P) (nx := nx) (L := L) (st := st) (h := h) hs
  | ldc a0 => cases o with
    | nil => exact l_cst (G := G) (C := C) (Q := Q) (P := P) (nx := nx) (L := L) (st := st) (h := h) hs
    | cons k l => exact l_gref (G := G) (C := C) (Q := Q) (P := P) (nx := nx) (L := L) (st := st) (h := h) hs
  | ldc_w a0 => exact l_cst (G := G) (C := C) (Q := Q) (P := P) (nx := nx) (L := L) (st := st) (h := h) hs
  | ldc2_w a0 => exact l_lcst (G := G) (C := C) (Q := Q) (P := P) (nx := nx) (L := L) (st := st) (h := h) hs
  | lconst a0 => exact l_lcst (G := G) (C := C) (Q := Q) (P := P) (nx := nx) (L := L) (st := st) (h := h) hs
  | aconst_null  => exact l_nul (G := G) (C := C) (Q := Q) (P := P) (nx := nx) (L := L) (st := st) (h := h) hs
  | iload_n a0 => exact l_ldi (G := G) (C := C) (Q := Q) (P := P) (nx := nx) (L := L) (st := st) (h := h) hs
  | iload a0 => exact l_ldi (G := G) (C := C) (Q := Q) (P := P) (nx := nx) (L := L) (st := st) (h := h) hs
  | lload_n a0 => exact l_ldl (G := G) (C := C) (Q := Q) (P := P) (nx := nx) (L := L) (st := st) (h := h) hs
  | lload a0 => exact l_ldl (G := G) (C := C) (Q := Q) (P := P) (nx := nx) (L := L) (st := st) (h := h) hs
  | aload_n a0 => exact l_ldr (G := G) (C := C) (Q := Q) (P := P) (nx := nx) (L := L) (st := st) (h := h) hs
  | aload a0 => exact l_ldr (G := G) (C := C) (Q := Q) (P := P) (nx := nx) (L := L) (st := st) (h := h) hs
  | istore_n a0 => exact l_sti (G := G) (C := C) (Q := Q) (P := P) (nx := nx) (L := L) (st := st) (h := h) hs
  | istore a0 => exact l_sti (G := G) (C := C) (Q := Q) (P := P) (nx := nx) (L := L) (st := st) (h := h) hs
  | lstore_n a0 => exact l_stl (G := G) (C := C) (Q := Q) (P := P) (nx := nx) (L := L) (st := st) (h := h) hs
  | lstore a0 => exact l_stl (G := G) (C := C) (Q := Q) (P := P) (nx := nx) (L := L) (st := st) (h := h) hs
  | astore_n a0 => exact l_str (G := G) (C := C) (Q := Q) (P := P) (nx := nx) (L := L) (st := st) (h := h) hs
  | astore a0 => exact l_str (G := G) (C := C) (Q := Q) (P := P) (nx := nx) (L := L) (st := st) (h := h) hs
  | iinc a0 a1 => exact l_iinc (G := G) (C := C) (Q := Q) (P := P) (nx := nx) (L := L) (st := st) (h := h) hs
  | iadd  => exact l_bin (G := G) (C := C) (Q := Q) (P := P) (nx := nx) (L := L) (st := st) (h := h) hs
  | isub  => exact l_bin (G := G) (C := C) (Q := Q) (P := P) (nx := nx) (L := L) (st := st) (h := h) hs
  | imul  => exact l_bin (G := G) (C := C) (Q := Q) (P := P) (nx := nx) (L := L) (st := st) (h := h) hs
  | iand  => exact l_bin (G := G) (C := C) (Q := Q) (P := P) (nx := nx) (L := L) (st := st) (h := h) hs
  | ior  => exact l_bin (G := G) (C := C) (Q := Q) (P := P) (nx := nx) (L := L) (st := st) (h := h) hs
  | ixor  => exact l_bin (G := G) (C := C) (Q := Q) (P := P) (nx := nx) (L := L) (st := st) (h := h) hs
  | ishl  => exact l_bin (G := G) (C := C) (Q := Q) (P := P) (nx := nx) (L := L) (st := st) (h := h) hs
  | ishr  => exact l_bin (G := G) (C := C) (Q := Q) (P := P) (nx := nx) (L := L) (st := st) (h := h) hs
  | iushr  => exact l_bin (G := G) (C := C) (Q := Q) (P := P) (nx := nx) (L := L) (st := st) (h := h) hs
  | idiv  => exact l_idiv (G := G) (C := C) (Q := Q) (P := P) (nx := nx) (L := L) (st := st) (h := h) hs
  | irem  => exact l_irem (G := G) (C := C) (Q := Q) (P := P) (nx := nx) (L := L) (st := st) (h := h) hs
  | ineg  => exact l_ineg (G := G) (C := C) (Q := Q) (P := P) (nx := nx) (L := L) (st := st) (h := h) hs
  | i2c  => exact l_i2c (G := G) (C := C) (Q := Q) (P := P) (nx := nx) (L := L) (st := st) (h := h) hs
  | i2b  => exact l_i2b (G := G) (C := C) (Q := Q) (P := P) (nx := nx) (L := L) (st := st) (h := h) hs
  | i2l  => exact l_i2l (G := G) (C := C) (Q := Q) (P := P) (nx := nx) (L := L) (st := st) (h := h) hs
  | ladd  => exact l_ladd (G := G) (C := C) (Q := Q) (P := P) (nx := nx) (L := L) (st := st) (h := h) hs
  | lneg  => exact l_lneg (G := G) (C := C) (Q := Q) (P := P) (nx := nx) (L := L) (st := st) (h := h) hs
  | lrem  => exact l_lrem (G := G) (C := C) (Q := Q) (P := P) (nx := nx) (L := L) (st := st) (h := h) hs
  | ldiv  => exact l_ldiv (G := G) (C := C) (Q := Q) (P := P) (nx := nx) (L := L) (st := st) (h := h) hs
  | lcmp  => exact l_lcmp (G := G) (C := C) (Q := Q) (P := P) (nx := nx) (L := L) (st := st) (h := h) hs
  | dup  => exact l_dup (G := G) (C := C) (Q := Q) (P := P) (nx := nx) (L := L) (st := st) (h := h) hs
  | pop  => exact l_pop (G := G) (C := C) (Q := Q) (P := P) (nx := nx) (L := L) (st := st) (h := h) hs
  | dup_x1  => exact l_dupx1 (G := G) (C := C) (Q := Q) (P := P) (nx := nx) (L := L) (st := st) (h := h) hs
  | dup2  => exact l_dup2 (G := G) (C := C) (Q := Q) (P := P) (nx := nx) (L := L) (st := st) (h := h) hs
  | ifCond a0 a1 => exact l_ifc (G := G) (C := C) (Q := Q) (P := P) (nx := nx) (L := L) (st := st) (h := h) hs
  | if_icmp a0 a1 => exact l_icmp (G := G) (C := C) (Q := Q) (P := P) (nx := nx) (L := L) (st := st) (h := h) hs
  | ifnull a0 => exact l_ifnull (G := G) (C := C) (Q := Q) (P := P) (nx := nx) (L := L) (st := st) (h := h) hs
  | ifnonnull a0 => exact l_ifnn (G := G) (C := C) (Q := Q) (P := P) (nx := nx) (L := L) (st := st) (h := h) hs
  | if_acmp k f => cases k with
    | eq => exact l_acmp (G := G) (C := C) (Q := Q) (P := P) (nx := nx) (L := L) (st := st) (h := h) hs
    | ne => exact l_acmp (G := G) (C := C) (Q := Q) (P := P) (nx := nx) (L := L) (st := st) (h := h) hs
  | goto a0 => exact l_goto (G := G) (C := C) (Q := Q) (P := P) (nx := nx) (L := L) (st := st) (h := h) hs
  | tableswitch a0 a1 a2 a3 => exact l_swi (G := G) (C := C) (Q := Q) (P := P) (nx := nx) (L := L) (st := st) (h := h) hs
  | lookupswitch a0 a1 => exact l_swi (G := G) (C := C) (Q := Q) (P := P) (nx := nx) (L := L) (st := st) (h := h) hs
  | getfield a0 => cases o with
    | nil => exact l_getf (G := G) (C := C) (Q := Q) (P := P) (nx := nx) (L := L) (st := st) (h := h) hs
    | cons k l => cases l with
      | nil => exact l_gets (G := G) (C := C) (Q := Q) (P := P) (nx := nx) (L := L) (st := st) (h := h) hs
      | cons _ _ => exact l_getf (G := G) (C := C) (Q := Q) (P := P) (nx := nx) (L := L) (st := st) (h := h) hs
  | putfield a0 => exact l_putf (G := G) (C := C) (Q := Q) (P := P) (nx := nx) (L := L) (st := st) (h := h) hs
  | iaload  => exact l_iald (G := G) (C := C) (Q := Q) (P := P) (nx := nx) (L := L) (st := st) (h := h) hs
  | baload  => exact l_bald (G := G) (C := C) (Q := Q) (P := P) (nx := nx) (L := L) (st := st) (h := h) hs
  | aaload  => exact l_aald (G := G) (C := C) (Q := Q) (P := P) (nx := nx) (L := L) (st := st) (h := h) hs
  | iastore  => exact l_iast (G := G) (C := C) (Q := Q) (P := P) (nx := nx) (L := L) (st := st) (h := h) hs
  | bastore  => exact l_bast (G := G) (C := C) (Q := Q) (P := P) (nx := nx) (L := L) (st := st) (h := h) hs
  | aastore  => exact l_aast (G := G) (C := C) (Q := Q) (P := P) (nx := nx) (L := L) (st := st) (h := h) hs
  | arraylength  => exact l_alen (G := G) (C := C) (Q := Q) (P := P) (nx := nx) (L := L) (st := st) (h := h) hs
  | new a0 => exact l_new (G := G) (C := C) (Q := Q) (P := P) (nx := nx) (L := L) (st := st) (h := h) hs
  | newarray k => cases k with
    | int => exact l_newa (G := G) (C := C) (Q := Q) (P := P) (nx := nx) (L := L) (st := st) (h := h) hs
    | boolean => exact l_newa (G := G) (C := C) (Q := Q) (P := P) (nx := nx) (L := L) (st := st) (h := h) hs
    | _ => exact hs.elim
  | anewarray a0 => exact l_anew (G := G) (C := C) (Q := Q) (P := P) (nx := nx) (L := L) (st := st) (h := h) hs
  | checkcast a0 => cases o with
    | nil => exact l_casta (G := G) (C := C) (Q := Q) (P := P) (nx := nx) (L := L) (st := st) (h := h) hs
    | cons k l => exact l_cast (G := G) (C := C) (Q := Q) (P := P) (nx := nx) (L := L) (st := st) (h := h) hs
  | instanceof a0 => exact l_inst (G := G) (C := C) (Q := Q) (P := P) (nx := nx) (L := L) (st := st) (h := h) hs
  | invokevirtual a0 => cases o with
    | nil => exact l_cln (G := G) (C := C) (Q := Q) (P := P) (nx := nx) (L := L) (st := st) (h := h) hs
    | cons k l => cases l with
      | nil => exact l_vstr (G := G) (C := C) (Q := Q) (P := P) (nx := nx) (L := L) (st := st) (h := h) hs
      | cons _ l2 => cases l2 with
        | nil => exact l_virt (G := G) (C := C) (Q := Q) (P := P) (nx := nx) (L := L) (st := st) (h := h) hs
        | cons _ _ => exact l_vstr (G := G) (C := C) (Q := Q) (P := P) (nx := nx) (L := L) (st := st) (h := h) hs
  | invokestatic a0 => cases o with
    | nil => exact l_cpya (G := G) (C := C) (Q := Q) (P := P) (nx := nx) (L := L) (st := st) (h := h) hs
    | cons k l => exact l_stat (G := G) (C := C) (Q := Q) (P := P) (nx := nx) (L := L) (st := st) (h := h) hs
  | invokespecial a0 => cases o with
    | nil => exact l_oini (G := G) (C := C) (Q := Q) (P := P) (nx := nx) (L := L) (st := st) (h := h) hs
    | cons k l => exact l_spec (G := G) (C := C) (Q := Q) (P := P) (nx := nx) (L := L) (st := st) (h := h) hs
  | ireturn  => exact l_iret (G := G) (C := C) (Q := Q) (P := P) (nx := nx) (L := L) (st := st) (h := h) hs
  | lreturn  => exact l_lret (G := G) (C := C) (Q := Q) (P := P) (nx := nx) (L := L) (st := st) (h := h) hs
  | areturn  => exact l_aret (G := G) (C := C) (Q := Q) (P := P) (nx := nx) (L := L) (st := st) (h := h) hs
  | return_  => exact l_vret (G := G) (C := C) (Q := Q) (P := P) (nx := nx) (L := L) (st := st) (h := h) hs
  | getstatic a0 => cases o with
    | nil => exact l_cst (G := G) (C := C) (Q := Q) (P := P) (nx := nx) (L := L) (st := st) (h := h) hs
    | cons k l => cases l with
      | nil => exact l_gref (G := G) (C := C) (Q := Q) (P := P) (nx := nx) (L := L) (st := st) (h := h) hs
      | cons _ _ => exact l_gopt (G := G) (C := C) (Q := Q) (P := P) (nx := nx) (L := L) (st := st) (h := h) hs
  | _ => exact hs.elim
/-- the one end of a run -/
def qEq (r : Option V) (h : MH) : KQ := fun r' h' => r' = r ∧ h' = h
def exC (C : KC) : Prop := ∀ y a h Q, C y a h Q → ∃ r h', Q r h' ∧ (h.1 ≤ h'.1 ∧ h.2.1 ≤ h'.2.1) ∧ C y a h (qEq r h')
theorem wpS_ex {G : MG} {C : KC} {y : Nat} {Q : KQ} (hm : moC C C) (hx : exC C) {pc : Nat} {L : Loc'} {st : List V} {h : MH} (hs : wpS G C y Q pc L st h) : ∃ r h', Q r h' ∧ (h.1 ≤ h'.1 ∧ h.2.1 ≤ h'.2.1) ∧ wpS G C y (qEq r h') pc L st h := by
  refine hs (fun pc L st h => ∃ r h', Q r h' ∧ (h.1 ≤ h'.1 ∧ h.2.1 ≤ h'.2.1) ∧ wpS G C y (qEq r h') pc L st h) ?_
  intro pc L st h hst
  rcases stp_lin hst with ⟨r, hq, f⟩ | ⟨pc', L', st', h', hp, hb, f⟩ | ⟨y', a, nx, L', rest, hc, f⟩
  · exact ⟨r, h, hq, b_rf, wpS_fold hm ((f _ _ _).mpr ⟨rfl, rfl⟩)⟩
  · obtain ⟨r, h2, hq, hb2, hw⟩ := hp
    exact ⟨r, h2, hq, ⟨Nat.le_trans hb.1 hb2.1, Nat.le_trans hb.2 hb2.2⟩, wpS_fold hm ((f _ _ _).mpr hw)⟩
  · obtain ⟨r1, h1, ⟨r, h2, hq, hb2, hw⟩, hb, hc1⟩ := hx _ _ _ _ hc
    refine ⟨r, h2, hq, ⟨Nat.le_trans hb.1 hb2.1, Nat.le_trans hb.2 hb2.2⟩, wpS_fold hm ((f _ _ _).mpr (hm _ _ _ _ _ ?_ hc1))⟩
    rintro r' h' ⟨rfl, rfl⟩
    exact hw
theorem wpC_ex {G : MG} : ∀ d, exC (wpC G d)
  | 0 => fun _ _ _ _ z => z.elim
  | d + 1 => fun _ _ _ _ z => (wpS_ex (wpC_mo d) (wpC_ex d) z.2).elim (fun r q => q.elim (fun h' q => ⟨r, h', q.1, q.2.1, z.1, q.2.2⟩))
/-- two ends of one run are one -/
def dtC (C : KC) : Prop := ∀ y a h r h' Q, C y a h (qEq r h') → C y a h Q → Q r h'
theorem wpS_dt {G : MG} {C : KC} {y : Nat} {r : Option V} {h' : MH} {Q : KQ} (hm : moC C C) (hx : exC C) (hd : dtC C) {pc : Nat} {L : Loc'} {st : List V} {h : MH} (hs : wpS G C y (qEq r h') pc L st h) : wpS G C y Q pc L st h → Q r h' := by
  refine hs (fun pc L st h => wpS G C y Q pc L st h → Q r h') ?_
  intro pc L st h hst hw
  have hu := wpS_unf hm hw
  rcases stp_lin hst with ⟨r1, ⟨e1, e2⟩, f⟩ | ⟨pc', L', st', h2, hp, hb, f⟩ | ⟨y', a, nx, L', rest, hc, f⟩
  · subst e1; subst e2
    exact (f _ _ _).mp hu
  · exact hp ((f _ _ _).mp hu)
  · obtain ⟨r1, h1, hp, -, hc1⟩ := hx _ _ _ _ hc
    exact hp (hd _ _ _ _ _ _ hc1 ((f _ _ _).mp hu))
theorem wpC_dt {G : MG} : ∀ d, dtC (wpC G d)
  | 0 => fun _ _ _ _ _ _ z => z.elim
  | d + 1 => fun _ _ _ _ _ _ z z2 => wpS_dt (wpC_mo d) (wpC_ex d) (wpC_dt d) z.2 z2.2
/-- a call whose end is known: as an equation -/
theorem wpC_is {G : MG} {d y : Nat} {a : List V} {h : MH} {r : Option V} {h' : MH} (z : wpC G d y a h (qEq r h')) (Q : KQ) : wpC G d y a h Q = Q r h' :=
  propext ⟨wpC_dt d _ _ _ _ _ _ z, fun q => wpC_mo d _ _ _ _ _ (fun r2 h2 e => by obtain ⟨e1, e2⟩ := e; subst e1; subst e2; exact q) z⟩
theorem wpC_le {G : MG} {d d' : Nat} (hd : d ≤ d') {y : Nat} {a : List V} {h : MH} {Q : KQ} (z : wpC G d y a h Q) : wpC G d' y a h Q := by
  induction hd with
  | refl => exact z
  | step _ ih => exact wpC_up _ _ _ _ _ _ (fun _ _ q => q) ih
