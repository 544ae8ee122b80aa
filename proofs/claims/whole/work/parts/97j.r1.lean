/-! reading a valley's text: what both programs do -/
abbrev RD : Type := Bool × Int × List Int
def hrF (T : Int → Int) (N p : Int) : Int := if p < N then T p else -1
def wdF (T : Int → Int) (N : Int) : List Int → Int → Bool × Int
  | [], p => (true, p)
  | c :: w, p => if hrF T N p = c then wdF T N w (p + 1) else (false, p)
def nuF (T : Int → Int) (N p : Int) : Int × Int := if 0 ≤ hrF T N p - 48 ∧ hrF T N p - 48 ≤ 9 then (if ¬ hrF T N p - 48 = 0 ∧ 0 ≤ hrF T N (p + 1) - 48 ∧ hrF T N (p + 1) - 48 ≤ 9 then ((hrF T N p - 48) * 10 + (hrF T N (p + 1) - 48), p + 2) else (hrF T N p - 48, p + 1)) else (-1, p)
/-- the place of a sign among others -/
def ofF (x : Int) : List Int → Int → Int
  | [], _ => -1
  | c :: w, k => if x = c then k else ofF x w (k + 1)
def wS (i : Nat) : List Int := sBy.getD i []
def ofS (x : Int) (i : Nat) : Int := ofF x (wS i) 0
def teF (T : Int → Int) (N p : Int) : RD := if ofS (hrF T N p) 5 = -1 then (false, p, []) else if ofS (hrF T N (p + 1)) 6 = -1 then (false, p + 1, []) else if (nuF T N (p + 2)).1 = -1 then (false, p + 2, []) else (true, (nuF T N (p + 2)).2, [(ofS (hrF T N p) 5 * 3 + ofS (hrF T N (p + 1)) 6) * 100 + (nuF T N (p + 2)).1])
def lpF (T : Int → Int) (N c j : Int) (f : Int → RD) : Nat → RD → RD
  | 0, r => r
  | n + 1, r => if r.1 = true ∧ hrF T N r.2.1 = c then (if (f (r.2.1 + 1)).1 = true then lpF T N c j f n (true, (f (r.2.1 + 1)).2.1, r.2.2 ++ (f (r.2.1 + 1)).2.2 ++ [j]) else (false, (f (r.2.1 + 1)).2.1, r.2.2 ++ (f (r.2.1 + 1)).2.2)) else r
def boF (T : Int → Int) (N : Int) (f : Int → RD) (p : Int) : RD := lpF T N 38 (-2) f 100 (f p)
def eiF (T : Int → Int) (N : Int) (f : Int → RD) (p : Int) : RD := lpF T N 124 (-3) (boF T N f) 100 (boF T N f p)
def sgF (T : Int → Int) (N : Int) : Nat → Int → RD
  | 0, p => if hrF T N p = 33 ∨ hrF T N p = 40 then (false, p, []) else teF T N p
  | k + 1, p => if hrF T N p = 33 then (if (sgF T N k (p + 1)).1 = true then (true, (sgF T N k (p + 1)).2.1, (sgF T N k (p + 1)).2.2 ++ [-1]) else (false, (sgF T N k (p + 1)).2.1, (sgF T N k (p + 1)).2.2)) else if hrF T N p = 40 then (if (eiF T N (sgF T N k) (p + 1)).1 = true ∧ hrF T N (eiF T N (sgF T N k) (p + 1)).2.1 = 41 then (true, (eiF T N (sgF T N k) (p + 1)).2.1 + 1, (eiF T N (sgF T N k) (p + 1)).2.2) else (false, (eiF T N (sgF T N k) (p + 1)).2.1, (eiF T N (sgF T N k) (p + 1)).2.2)) else teF T N p
/-- a clause: 0 it is none, 1 a number for nerve, 2 bold or shy; where it ends; the number or the last step; its steps -/
abbrev RC : Type := Nat × Int × Int × List Int
def fwF (x : Int) : Nat := if x = 110 then 0 else if x = 98 then 1 else 2
def clF (T : Int → Int) (N p : Int) : RC :=
  if (wdF T N (wS (fwF (hrF T N p))) p).1 = true then
    (if (nuF T N (wdF T N (wS (fwF (hrF T N p))) p).2).1 = -1 then (0, (wdF T N (wS (fwF (hrF T N p))) p).2, 0, [])
    else if hrF T N p = 110 then (1, (nuF T N (wdF T N (wS (fwF (hrF T N p))) p).2).2, (nuF T N (wdF T N (wS (fwF (hrF T N p))) p).2).1, [])
    else if hrF T N (nuF T N (wdF T N (wS (fwF (hrF T N p))) p).2).2 = 32 then
      (if (eiF T N (sgF T N 5) ((nuF T N (wdF T N (wS (fwF (hrF T N p))) p).2).2 + 1)).1 = true then (2, (eiF T N (sgF T N 5) ((nuF T N (wdF T N (wS (fwF (hrF T N p))) p).2).2 + 1)).2.1, (if hrF T N p = 98 then -10 else -200) - (nuF T N (wdF T N (wS (fwF (hrF T N p))) p).2).1, (eiF T N (sgF T N 5) ((nuF T N (wdF T N (wS (fwF (hrF T N p))) p).2).2 + 1)).2.2)
      else (0, (eiF T N (sgF T N 5) ((nuF T N (wdF T N (wS (fwF (hrF T N p))) p).2).2 + 1)).2.1, 0, (eiF T N (sgF T N 5) ((nuF T N (wdF T N (wS (fwF (hrF T N p))) p).2).2 + 1)).2.2))
    else (0, (nuF T N (wdF T N (wS (fwF (hrF T N p))) p).2).2, 0, []))
  else (0, (wdF T N (wS (fwF (hrF T N p))) p).2, 0, [])
/-- all clauses: well, place, nerve, the clauses (steps, last step), the steps of one that is none -/
abbrev RV : Type := Bool × Int × Int × List (List Int × Int) × List Int
def vsF (c : RC) (nv : Int) (cl : List (List Int × Int)) (f : Int → Int → List (List Int × Int) → RV) : RV := if c.1 = 0 then (false, c.2.1, nv, cl, c.2.2.2) else if c.1 = 1 then f c.2.1 c.2.2.1 cl else f c.2.1 nv (cl ++ [(c.2.2.2, c.2.2.1)])
def vlF (T : Int → Int) (N : Int) : Nat → Int → Int → List (List Int × Int) → RV
  | 0, p, nv, cl => (true, p, nv, cl, [])
  | n + 1, p, nv, cl => if hrF T N p = 59 then vsF (clF T N (p + 1)) nv cl (vlF T N n) else (true, p, nv, cl, [])
def vaF (T : Int → Int) (N : Int) : RV := vsF (clF T N 0) 12 [] (vlF T N 9)
theorem ff_t {P : Prop} (h : false = true) : P := absurd h (by decide)
theorem tr_of {a b n : Int} (ha : 0 ≤ a ∧ a ≤ 5) (hb : 0 ≤ b ∧ b ≤ 2) (hn : 0 ≤ n ∧ n ≤ 99) : trC ((a * 3 + b) * 100 + n) = a + 8 * b + 32 * n := by
  unfold trC
  rw [if_neg (by omega)]
  have e1 : ((a * 3 + b) * 100 + n) / 300 = a := by omega
  have e2 : ((a * 3 + b) * 100 + n) / 100 = a * 3 + b := by omega
  have e3 : ((a * 3 + b) * 100 + n) % 100 = n := by omega
  rw [e1, e2, e3]
  omega
section RB
variable {T : Int → Int} {N : Int}
theorem hr_lt {p : Int} (h : ¬ hrF T N p = -1) : p < N := by
  unfold hrF at h
  by_cases c : p < N
  · exact c
  · rw [if_neg c] at h; exact absurd rfl h
theorem of_b {x : Int} : ∀ (w : List Int) (k : Int), ofF x w k = -1 ∨ (k ≤ ofF x w k ∧ ofF x w k < k + w.length) := by
  intro w
  induction w with
  | nil => intro k; exact Or.inl rfl
  | cons c w ih =>
    intro k
    rw [ofF, List.length_cons]
    by_cases e : x = c
    · rw [if_pos e]; omega
    · rw [if_neg e]
      have := ih (k + 1)
      omega
theorem ofS_5 {x : Int} : ofS x 5 = -1 ∨ (0 ≤ ofS x 5 ∧ ofS x 5 ≤ 5) := by
  have : ofS x 5 = -1 ∨ (0 ≤ ofS x 5 ∧ ofS x 5 < 0 + ((6 : Nat) : Int)) := of_b (wS 5) 0
  omega
theorem ofS_6 {x : Int} : ofS x 6 = -1 ∨ (0 ≤ ofS x 6 ∧ ofS x 6 ≤ 2) := by
  have : ofS x 6 = -1 ∨ (0 ≤ ofS x 6 ∧ ofS x 6 < 0 + ((3 : Nat) : Int)) := of_b (wS 6) 0
  omega
theorem of_no {x : Int} : ∀ (w : List Int) (k : Int), (∀ c ∈ w, 0 ≤ c) → x < 0 → ofF x w k = -1 := by
  intro w
  induction w with
  | nil => intro k _ _; rfl
  | cons c w ih =>
    intro k h hx
    have := h c List.mem_cons_self
    rw [ofF, if_neg (by omega)]
    exact ih _ (fun c hc => h c (List.mem_cons_of_mem _ hc)) hx
theorem ofS_m {i : Nat} (hi : i < 12) : ofS (-1) i = -1 := by
  have : ∀ i : Nat, i < 12 → ∀ c ∈ wS i, 0 ≤ c := by decide
  exact of_no _ _ (this i hi) (by omega)
theorem nu_b {p : Int} (hp : p ≤ N) : ((nuF T N p).1 = -1 ∧ (nuF T N p).2 = p) ∨ ((0 ≤ (nuF T N p).1 ∧ (nuF T N p).1 ≤ 99) ∧ p < (nuF T N p).2 ∧ (nuF T N p).2 ≤ N) := by
  unfold nuF
  by_cases c : 0 ≤ hrF T N p - 48 ∧ hrF T N p - 48 ≤ 9
  · have lt := hr_lt (T := T) (N := N) (p := p) (by omega)
    rw [if_pos c]
    by_cases c2 : ¬ hrF T N p - 48 = 0 ∧ 0 ≤ hrF T N (p + 1) - 48 ∧ hrF T N (p + 1) - 48 ≤ 9
    · have lt2 := hr_lt (T := T) (N := N) (p := p + 1) (by omega)
      rw [if_pos c2]
      right
      show (0 ≤ (hrF T N p - 48) * 10 + (hrF T N (p + 1) - 48) ∧ (hrF T N p - 48) * 10 + (hrF T N (p + 1) - 48) ≤ 99) ∧ p < p + 2 ∧ p + 2 ≤ N
      omega
    · rw [if_neg c2]
      right
      show (0 ≤ hrF T N p - 48 ∧ hrF T N p - 48 ≤ 99) ∧ p < p + 1 ∧ p + 1 ≤ N
      omega
  · rw [if_neg c]
    exact Or.inl ⟨rfl, rfl⟩
theorem wd_b : ∀ (w : List Int), (∀ c ∈ w, 0 ≤ c) → ∀ p, p ≤ N → p ≤ (wdF T N w p).2 ∧ (wdF T N w p).2 ≤ N := by
  intro w
  induction w with
  | nil => intro _ p hp; exact ⟨Int.le_refl _, hp⟩
  | cons c w ih =>
    intro h p hp
    rw [wdF]
    by_cases e : hrF T N p = c
    · have := h c List.mem_cons_self
      have lt := hr_lt (T := T) (N := N) (p := p) (by omega)
      rw [if_pos e]
      have := ih (fun c hc => h c (List.mem_cons_of_mem _ hc)) (p + 1) (by omega)
      omega
    · rw [if_neg e]
      exact ⟨Int.le_refl _, hp⟩
theorem wS_0 {i : Nat} (hi : i < 12) : ∀ c ∈ wS i, 0 ≤ c := by
  have : ∀ i : Nat, i < 12 → ∀ c ∈ wS i, 0 ≤ c := by decide
  exact this i hi
/-- what a row of steps does to the stack -/
def wfD (D : Nat) (l : List Int) : Prop := ∀ (rest : List Int) (b : Nat), b + D ≤ 13 → wfM rest (b + 1) → wfM (l.map trC ++ rest) b
def gR (N : Int) (D : Nat) (p : Int) (r : RD) : Prop := (p ≤ r.2.1 ∧ r.2.1 ≤ N) ∧ (r.2.2.length : Int) ≤ r.2.1 - p ∧ (∀ c ∈ r.2.2, -3 ≤ c ∧ c < 1800) ∧ (r.1 = true → wfD D r.2.2)
theorem wfD_mo {D D' : Nat} {l : List Int} (h : wfD D l) (hd : D ≤ D') : wfD D' l := fun rest b hb hr => h rest b (by omega) hr
theorem lp_g {c j : Int} {D : Nat} {f : Int → RD} (hc : 0 ≤ c) (hj : j = -2 ∨ j = -3) (hf : ∀ p, 0 ≤ p → p ≤ N → gR N D p (f p)) {p : Int} (p0 : 0 ≤ p) : ∀ (n : Nat) (r : RD), gR N (D + 1) p r → gR N (D + 1) p (lpF T N c j f n r) := by
  intro n
  induction n with
  | zero => intro r h; exact h
  | succ n ih =>
    intro r h
    rw [lpF]
    by_cases c1 : r.1 = true ∧ hrF T N r.2.1 = c
    · rw [if_pos c1]
      obtain ⟨⟨a1, a2⟩, a3, a4, a5⟩ := h
      have lt := hr_lt (T := T) (N := N) (p := r.2.1) (by omega)
      obtain ⟨⟨b1, b2⟩, b3, b4, b5⟩ := hf (r.2.1 + 1) (by omega) (by omega)
      by_cases c2 : (f (r.2.1 + 1)).1 = true
      · rw [if_pos c2]
        refine ih _ ⟨⟨?_, b2⟩, ?_, ?_, fun _ => ?_⟩
        · show p ≤ (f (r.2.1 + 1)).2.1
          omega
        · show (((r.2.2 ++ (f (r.2.1 + 1)).2.2 ++ [j]).length : Nat) : Int) ≤ (f (r.2.1 + 1)).2.1 - p
          rw [List.length_append, List.length_append, List.length_singleton]
          omega
        · intro x hx
          have hx : x ∈ r.2.2 ++ (f (r.2.1 + 1)).2.2 ++ [j] := hx
          rw [List.mem_append, List.mem_append, List.mem_singleton] at hx
          rcases hx with (q | q) | q
          · exact a4 x q
          · exact b4 x q
          · omega
        · intro rest b hb hr
          show wfM ((r.2.2 ++ (f (r.2.1 + 1)).2.2 ++ [j]).map trC ++ rest) b
          rw [List.map_append, List.map_append, List.append_assoc, List.append_assoc]
          refine a5 c1.1 _ b hb (b5 c2 _ (b + 1) (by omega) ?_)
          show wfM (trC j :: rest) (b + 1 + 1)
          have e : trC j = j := if_pos (by omega)
          rw [e, wfM, if_neg (by omega), if_neg (by omega), if_pos (by omega)]
          exact ⟨⟨by omega, hj⟩, hr⟩
      · rw [if_neg c2]
        refine ⟨⟨?_, b2⟩, ?_, ?_, fun q => ff_t q⟩
        · show p ≤ (f (r.2.1 + 1)).2.1
          omega
        · show (((r.2.2 ++ (f (r.2.1 + 1)).2.2).length : Nat) : Int) ≤ (f (r.2.1 + 1)).2.1 - p
          rw [List.length_append]
          omega
        · intro x hx
          have hx : x ∈ r.2.2 ++ (f (r.2.1 + 1)).2.2 := hx
          rw [List.mem_append] at hx
          rcases hx with q | q
          · exact a4 x q
          · exact b4 x q
    · rw [if_neg c1]; exact h
theorem gR_mo {D D' : Nat} {p : Int} {r : RD} (h : gR N D p r) (hd : D ≤ D') : gR N D' p r := ⟨h.1, h.2.1, h.2.2.1, fun q => wfD_mo (h.2.2.2 q) hd⟩
theorem bo_g {D : Nat} {f : Int → RD} (hf : ∀ p, 0 ≤ p → p ≤ N → gR N D p (f p)) : ∀ p, 0 ≤ p → p ≤ N → gR N (D + 1) p (boF T N f p) := fun p p0 p1 => lp_g (by decide) (Or.inl rfl) hf p0 100 _ (gR_mo (hf p p0 p1) (by omega))
theorem ei_g {D : Nat} {f : Int → RD} (hf : ∀ p, 0 ≤ p → p ≤ N → gR N D p (f p)) : ∀ p, 0 ≤ p → p ≤ N → gR N (D + 2) p (eiF T N f p) := fun p p0 p1 => lp_g (by decide) (Or.inr rfl) (bo_g hf) p0 100 _ (gR_mo (bo_g hf p p0 p1) (by omega))
theorem te_g {p : Int} (p0 : 0 ≤ p) (p1 : p ≤ N) : gR N 1 p (teF T N p) := by
  unfold teF
  have nil : ∀ {q : Int}, p ≤ q → q ≤ N → gR N 1 p (false, q, []) := fun {q} h1 h2 => ⟨⟨h1, h2⟩, by show (0 : Int) ≤ q - p; omega, fun c hc => absurd hc List.not_mem_nil, fun q => ff_t q⟩
  by_cases c1 : ofS (hrF T N p) 5 = -1
  · rw [if_pos c1]; exact nil (Int.le_refl _) p1
  · rw [if_neg c1]
    have l1 := hr_lt (T := T) (N := N) (p := p) (fun q => c1 (by rw [q]; exact ofS_m (by decide)))
    by_cases c2 : ofS (hrF T N (p + 1)) 6 = -1
    · rw [if_pos c2]; exact nil (by omega) (by omega)
    · rw [if_neg c2]
      have l2 := hr_lt (T := T) (N := N) (p := p + 1) (fun q => c2 (by rw [q]; exact ofS_m (by decide)))
      by_cases c3 : (nuF T N (p + 2)).1 = -1
      · rw [if_pos c3]; exact nil (by omega) (by omega)
      · rw [if_neg c3]
        have hn := (nu_b (T := T) (N := N) (p := p + 2) (by omega)).resolve_left (fun q => c3 q.1)
        have h5 := (ofS_5 (x := hrF T N p)).resolve_left c1
        have h6 := (ofS_6 (x := hrF T N (p + 1))).resolve_left c2
        generalize ofS (hrF T N p) 5 = a at h5 ⊢
        generalize ofS (hrF T N (p + 1)) 6 = b at h6 ⊢
        generalize nuF T N (p + 2) = n at hn ⊢
        refine ⟨⟨?_, hn.2.2⟩, ?_, ?_, fun _ => ?_⟩
        · show p ≤ n.2; omega
        · show ((1 : Nat) : Int) ≤ n.2 - p; omega
        · intro c hc
          have hc : c ∈ [(a * 3 + b) * 100 + n.1] := hc
          rw [List.mem_singleton] at hc
          omega
        · intro rest k hk hr
          show wfM (trC ((a * 3 + b) * 100 + n.1) :: rest) k
          have e := tr_of h5 h6 hn.1
          rw [e, wfM, if_pos (by omega)]
          exact ⟨⟨by omega, by omega, by omega⟩, hr⟩
theorem sg_g : ∀ (k : Nat) (p : Int), 0 ≤ p → p ≤ N → gR N (2 * k + 1) p (sgF T N k p) := by
  intro k
  induction k with
  | zero =>
    intro p p0 p1
    rw [sgF]
    by_cases c : hrF T N p = 33 ∨ hrF T N p = 40
    · rw [if_pos c]
      exact ⟨⟨Int.le_refl _, p1⟩, by show (0 : Int) ≤ p - p; omega, fun c hc => absurd hc List.not_mem_nil, fun q => ff_t q⟩
    · rw [if_neg c]; exact te_g p0 p1
  | succ k ih =>
    intro p p0 p1
    rw [sgF]
    by_cases c : hrF T N p = 33
    · rw [if_pos c]
      have lt := hr_lt (T := T) (N := N) (p := p) (by omega)
      obtain ⟨⟨b1, b2⟩, b3, b4, b5⟩ := ih (p + 1) (by omega) (by omega)
      by_cases c2 : (sgF T N k (p + 1)).1 = true
      · rw [if_pos c2]
        refine ⟨⟨?_, b2⟩, ?_, ?_, fun _ => ?_⟩
        · show p ≤ (sgF T N k (p + 1)).2.1; omega
        · show ((((sgF T N k (p + 1)).2.2 ++ [-1]).length : Nat) : Int) ≤ (sgF T N k (p + 1)).2.1 - p
          rw [List.length_append, List.length_singleton]; omega
        · intro x hx
          have hx : x ∈ (sgF T N k (p + 1)).2.2 ++ [-1] := hx
          rw [List.mem_append, List.mem_singleton] at hx
          rcases hx with q | q
          · exact b4 x q
          · omega
        · intro rest b hb hr
          show wfM (((sgF T N k (p + 1)).2.2 ++ [-1]).map trC ++ rest) b
          rw [List.map_append, List.append_assoc]
          refine b5 c2 _ b (by omega) ?_
          show wfM (trC (-1) :: rest) (b + 1)
          have e : trC (-1) = -1 := if_pos (by omega)
          rw [e, wfM, if_neg (by omega), if_pos rfl]
          exact ⟨by omega, hr⟩
      · rw [if_neg c2]
        refine ⟨⟨?_, b2⟩, ?_, b4, fun q => ff_t q⟩
        · show p ≤ (sgF T N k (p + 1)).2.1; omega
        · show (((sgF T N k (p + 1)).2.2.length : Nat) : Int) ≤ (sgF T N k (p + 1)).2.1 - p; omega
    · rw [if_neg c]
      by_cases c1 : hrF T N p = 40
      · rw [if_pos c1]
        have lt := hr_lt (T := T) (N := N) (p := p) (by omega)
        obtain ⟨⟨b1, b2⟩, b3, b4, b5⟩ := ei_g (T := T) (fun q q0 q1 => ih q q0 q1) (p + 1) (by omega) (by omega)
        by_cases c2 : (eiF T N (sgF T N k) (p + 1)).1 = true ∧ hrF T N (eiF T N (sgF T N k) (p + 1)).2.1 = 41
        · rw [if_pos c2]
          have lt2 := hr_lt (T := T) (N := N) (p := (eiF T N (sgF T N k) (p + 1)).2.1) (by omega)
          refine ⟨⟨?_, ?_⟩, ?_, b4, fun _ => wfD_mo (b5 c2.1) (by omega)⟩
          · show p ≤ (eiF T N (sgF T N k) (p + 1)).2.1 + 1; omega
          · show (eiF T N (sgF T N k) (p + 1)).2.1 + 1 ≤ N; omega
          · show (((eiF T N (sgF T N k) (p + 1)).2.2.length : Nat) : Int) ≤ (eiF T N (sgF T N k) (p + 1)).2.1 + 1 - p; omega
        · rw [if_neg c2]
          refine ⟨⟨?_, b2⟩, ?_, b4, fun q => ff_t q⟩
          · show p ≤ (eiF T N (sgF T N k) (p + 1)).2.1; omega
          · show (((eiF T N (sgF T N k) (p + 1)).2.2.length : Nat) : Int) ≤ (eiF T N (sgF T N k) (p + 1)).2.1 - p; omega
      · rw [if_neg c1]
        exact gR_mo (te_g p0 p1) (by omega)
end RB
