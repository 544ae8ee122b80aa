/-! values of the small machine as the machine's -/
def cV : V → Value
  | Sum.inl x => .int (Int32.ofInt x)
  | Sum.inr (Sum.inl x) => .long (Int64.ofInt x)
  | Sum.inr (Sum.inr none) => .null
  | Sum.inr (Sum.inr (some a)) => .ref a
theorem cV_o (r : Option Nat) : cV (vO r) = va_rf r := by cases r <;> rfl
def iR (x : Int) : Prop := -2147483648 ≤ x ∧ x < 2147483648
def lR (x : Int) : Prop := -9223372036854775808 ≤ x ∧ x < 9223372036854775808
def wfV : V → Prop
  | Sum.inl x => iR x
  | Sum.inr (Sum.inl x) => lR x
  | Sum.inr (Sum.inr _) => True
def wfC : MC → Prop
  | Sum.inl (_, fs) => ∀ v ∈ fs, wfV v
  | Sum.inr (Sum.inl (_, n, f)) => n < 2147483648 ∧ ∀ j, iR (f j)
  | Sum.inr (Sum.inr (_, n, _)) => n < 2147483648
theorem i32r (x : Int32) : iR x.toInt := by
  have h1 := Int32.le_toInt x
  have h2 := Int32.toInt_lt x
  exact ⟨by omega, by omega⟩
theorem i64r (x : Int64) : lR x.toInt := by
  have h1 := Int64.le_toInt x
  have h2 := Int64.toInt_lt x
  exact ⟨by omega, by omega⟩
theorem i32i {x : Int} (h : iR x) : (Int32.ofInt x).toInt = x := by
  obtain ⟨h1, h2⟩ := h
  exact Int32.toInt_ofInt_of_le (by omega) (by omega)
theorem i64i {x : Int} (h : lR x) : (Int64.ofInt x).toInt = x := by
  obtain ⟨h1, h2⟩ := h
  exact Int64.toInt_ofInt_of_le (by omega) (by omega)
theorem i32lt {x y : Int} (hx : iR x) (hy : iR y) : Int32.ofInt x < Int32.ofInt y ↔ x < y := by rw [Int32.lt_iff_toInt_lt, i32i hx, i32i hy]
theorem i32le {x y : Int} (hx : iR x) (hy : iR y) : Int32.ofInt x ≤ Int32.ofInt y ↔ x ≤ y := by rw [Int32.le_iff_toInt_le, i32i hx, i32i hy]
theorem i32eq {x y : Int} (hx : iR x) (hy : iR y) : Int32.ofInt x = Int32.ofInt y ↔ x = y := by
  refine ⟨fun h => ?_, fun h => by rw [h]⟩
  have := congrArg Int32.toInt h
  rwa [i32i hx, i32i hy] at this
theorem i64lt {x y : Int} (hx : lR x) (hy : lR y) : Int64.ofInt x < Int64.ofInt y ↔ x < y := by rw [Int64.lt_iff_toInt_lt, i64i hx, i64i hy]
theorem i64eq {x y : Int} (hx : lR x) (hy : lR y) : Int64.ofInt x = Int64.ofInt y ↔ x = y := by
  refine ⟨fun h => ?_, fun h => by rw [h]⟩
  have := congrArg Int64.toInt h
  rwa [i64i hx, i64i hy] at this
theorem i32_0 : Int32.ofInt 0 = 0 := rfl
theorem iR_0 : iR 0 := ⟨by decide, by decide⟩
theorem i32nat (n : Nat) : Int32.ofInt (n : Int) = Int32.ofNat n := by
  first | rfl | simp | exact (Int32.ofNat_eq_ofInt _).symm
theorem i32cl {x : Int} (hx : iR x) (h0 : 0 ≤ x) : (Int32.ofInt x).toNatClampNeg = x.toNat := by
  show (Int32.ofInt x).toInt.toNat = x.toNat
  rw [i32i hx]
theorem i32in {x : Int} {n : Nat} (hx : iR x) (h0 : 0 ≤ x) (h1 : x < n) : ¬ (Int32.ofInt x < 0 ∨ n ≤ (Int32.ofInt x).toNatClampNeg) := by
  rw [i32cl hx h0, ← i32_0, i32lt hx iR_0]
  omega
/-! locals -/
def lasc : Loc' → Nat → List (Nat × Value)
  | [], _ => []
  | none :: l, i => lasc l (i + 1)
  | some v :: l, i => (i, cV v) :: lasc l (i + 1)
theorem mem_lasc : ∀ {L : Loc'} {i : Nat} {q : Nat × Value}, q ∈ lasc L i ↔ ∃ (k : Nat) (v : V), L[k]? = some (some v) ∧ q = (i + k, cV v)
  | [], i, q => by simp [lasc]
  | none :: l, i, q => by
    rw [lasc, mem_lasc]
    constructor
    · rintro ⟨k, v, h, rfl⟩; exact ⟨k + 1, v, by simpa using h, by rw [Nat.add_assoc, Nat.add_comm 1]⟩
    · rintro ⟨k, v, h, rfl⟩
      cases k with
      | zero => simp at h
      | succ k => exact ⟨k, v, by simpa using h, by rw [Nat.add_assoc, Nat.add_comm 1]⟩
  | some w :: l, i, q => by
    rw [lasc, List.mem_cons, mem_lasc]
    constructor
    · rintro (rfl | ⟨k, v, h, rfl⟩)
      · exact ⟨0, w, by simp, by simp⟩
      · exact ⟨k + 1, v, by simpa using h, by rw [Nat.add_assoc, Nat.add_comm 1]⟩
    · rintro ⟨k, v, h, rfl⟩
      cases k with
      | zero => left; simp at h; subst h; rfl
      | succ k => right; exact ⟨k, v, by simpa using h, by rw [Nat.add_assoc, Nat.add_comm 1]⟩
theorem ls_get {ls : Array Slot} {n : Nat} {L : Loc'} (h : lv_has ls n (lasc L 0)) {i : Nat} {v : V} (hi : L[i]? = some (some v)) : ls[i]? = some (.val (cV v)) :=
  h.2.2 (i, cV v) (mem_lasc.mpr ⟨i, v, hi, by rw [Nat.zero_add]⟩)
theorem cV_cat2 {v : V} (h : (cV v).category = 2) : ∃ x, v = vL x := by
  rcases v with x | x | r
  · cases h
  · exact ⟨x, rfl⟩
  · cases r <;> cases h
theorem noLg_of {L : Loc'} {n : Nat} (h : noLg L n = true) {x : Int} (h2 : L[n]? = some (some (vL x))) : False := by
  unfold noLg at h
  rw [h2] at h
  cases h
theorem ls_set {ls : Array Slot} {n : Nat} {L : Loc'} {i : Nat} {v : V} (hL : i < L.length) (hb : noLgB L i = true) (h : lv_has ls n ((i, cV v) :: (lasc L 0).filter (fun q => !(q.1 == i) && !(q.1 + 1 == i && q.2.category == 2)))) : lv_has ls n (lasc (L.set i (some v)) 0) := by
  refine ⟨h.1, h.2.1, fun q hq => h.2.2 q ?_⟩
  obtain ⟨k, w, hk, rfl⟩ := mem_lasc.mp hq
  rw [Nat.zero_add]
  by_cases hki : k = i
  · subst hki
    rw [List.getElem?_set_self hL] at hk
    cases hk
    exact List.mem_cons_self
  · rw [List.getElem?_set_ne (Ne.symm hki)] at hk
    refine List.mem_cons_of_mem _ (List.mem_filter.mpr ⟨mem_lasc.mpr ⟨k, w, hk, by rw [Nat.zero_add]⟩, ?_⟩)
    simp only [Bool.and_eq_true, Bool.not_eq_true', beq_eq_false_iff_ne, ne_eq, Bool.and_eq_false_iff]
    refine ⟨hki, ?_⟩
    by_cases h1 : k + 1 = i
    · right
      intro h2
      obtain ⟨x, rfl⟩ := cV_cat2 h2
      subst h1
      exact noLg_of hb hk
    · left; exact h1
theorem ls_setL {ls : Array Slot} {n : Nat} {L : Loc'} {i : Nat} {x : Int} (hL : i + 1 < L.length) (hb : noLgB L i = true) (h : lv_has ls n ((i, cV (vL x)) :: (lasc L 0).filter (fun q => !(q.1 == i) && (!(q.1 == i + 1) && !(q.1 + 1 == i && q.2.category == 2))))) : lv_has ls n (lasc ((L.set i (some (vL x))).set (i + 1) none) 0) := by
  refine ⟨h.1, h.2.1, fun q hq => h.2.2 q ?_⟩
  obtain ⟨k, w, hk, rfl⟩ := mem_lasc.mp hq
  rw [Nat.zero_add]
  by_cases hk1 : k = i + 1
  · subst hk1
    rw [List.getElem?_set_self (by simpa using hL)] at hk
    cases hk
  rw [List.getElem?_set_ne (Ne.symm hk1)] at hk
  by_cases hki : k = i
  · subst hki
    rw [List.getElem?_set_self (by omega)] at hk
    cases hk
    exact List.mem_cons_self
  · rw [List.getElem?_set_ne (Ne.symm hki)] at hk
    refine List.mem_cons_of_mem _ (List.mem_filter.mpr ⟨mem_lasc.mpr ⟨k, w, hk, by rw [Nat.zero_add]⟩, ?_⟩)
    simp only [Bool.and_eq_true, Bool.not_eq_true', beq_eq_false_iff_ne, ne_eq, Bool.and_eq_false_iff]
    refine ⟨hki, hk1, ?_⟩
    by_cases h1 : k + 1 = i
    · right
      intro h2
      obtain ⟨z, rfl⟩ := cV_cat2 h2
      subst h1
      exact noLg_of hb hk
    · left; exact h1
def wfL (L : Loc') : Prop := ∀ (i : Nat) (v : V), L[i]? = some (some v) → wfV v
def wfS (st : List V) : Prop := ∀ v ∈ st, wfV v
theorem wfL_set {L : Loc'} {i : Nat} {v : V} (h : wfL L) (hv : wfV v) : wfL (L.set i (some v)) := by
  intro k w hk
  by_cases hki : k = i
  · subst hki
    by_cases hl : k < L.length
    · rw [List.getElem?_set_self hl] at hk; cases hk; exact hv
    · rw [List.getElem?_eq_none (by simp; omega)] at hk; cases hk
  · rw [List.getElem?_set_ne (Ne.symm hki)] at hk
    exact h k w hk
theorem wfL_setN {L : Loc'} {i : Nat} (h : wfL L) : wfL (L.set i none) := by
  intro k w hk
  by_cases hki : k = i
  · subst hki
    by_cases hl : k < L.length
    · rw [List.getElem?_set_self hl] at hk; cases hk
    · rw [List.getElem?_eq_none (by simp; omega)] at hk; cases hk
  · rw [List.getElem?_set_ne (Ne.symm hki)] at hk
    exact h k w hk
theorem wfS_t {v : V} {st : List V} (h : wfS (v :: st)) : wfS st := fun w hw => h w (List.mem_cons_of_mem _ hw)
theorem wfS_h {v : V} {st : List V} (h : wfS (v :: st)) : wfV v := h v List.mem_cons_self
theorem wfS_c {v : V} {st : List V} (hv : wfV v) (h : wfS st) : wfS (v :: st) := fun w hw => by
  rcases List.mem_cons.mp hw with rfl | q
  · exact hv
  · exact h w q
