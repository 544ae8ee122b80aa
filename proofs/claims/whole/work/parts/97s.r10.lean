/-! the class reads clauses -/
/-- the clauses that are kept, from the i-th on, from code fr to z -/
def vrE (C S E : Int → Int) (nc : Int) : List (List Int × Int) → Int → Int → Int → Prop
  | [], _, fr, z => fr = z
  | x :: cl, i, fr, z => (seg C fr x.1.length = x.1 ∧ E i = fr + x.1.length ∧ fr + x.1.length ≤ nc ∧ enF x.2 [true] = S i ∧ okC x) ∧ vrE C S E nc cl (i + 1) (fr + x.1.length) z
theorem vrE_le {C S E : Int → Int} {nc : Int} : ∀ (cl : List (List Int × Int)) (i fr z : Int), vrE C S E nc cl i fr z → fr ≤ z := by
  intro cl
  induction cl with
  | nil => intro i fr z h; exact Int.le_of_eq h
  | cons x cl ih => intro i fr z h; have := ih _ _ _ h.2; omega
theorem vrE_VR {C S E : Int → Int} {nc : Int} : ∀ (cl : List (List Int × Int)) (i fr z : Int), vrE C S E nc cl i fr z → VR C S E nc cl.length i fr (flF cl) := by
  intro cl
  induction cl with
  | nil => intro i fr z h; rfl
  | cons x cl ih =>
    intro i fr z h
    obtain ⟨⟨h1, h2, h3, h4, h5⟩, h6⟩ := h
    refine ⟨x.1.length, x.2, flF cl, ?_, h2, h3, ⟨h5.2.2.2, h4⟩, ?_, ih _ _ _ h6⟩
    · rw [h1]; rfl
    · rw [h1]; exact h5.1
theorem vrE_app {C S E : Int → Int} {nc : Int} {l : List Int} {e : Int} (ok : okC (l, e)) : ∀ (cl : List (List Int × Int)) (i fr z : Int), vrE C S E nc cl i fr z → z + l.length ≤ nc → vrE (kE C z l) (up S (i + cl.length) (enF e [true])) (up E (i + cl.length) (z + l.length)) nc (cl ++ [(l, e)]) i fr (z + l.length) := by
  intro cl
  induction cl with
  | nil =>
    intro i fr z h hz
    have h : fr = z := h
    subst h
    rw [show i + ((([] : List (List Int × Int)).length : Nat) : Int) = i by show i + ((0 : Nat) : Int) = i; omega]
    exact ⟨⟨kE_seg _ _ _, up_eq, hz, up_eq.symm, ok⟩, rfl⟩
  | cons x cl ih =>
    intro i fr z h hz
    obtain ⟨⟨h1, h2, h3, h4, h5⟩, h6⟩ := h
    have hle := vrE_le _ _ _ _ h6
    have ih' := ih _ _ _ h6 hz
    rw [List.length_cons, show i + ((cl.length + 1 : Nat) : Int) = i + 1 + (cl.length : Int) by omega]
    refine ⟨⟨?_, ?_, h3, ?_, h5⟩, ih'⟩
    · rw [seg_cg x.1.length fr (fun k k0 k1 => kE_o l C z k (by omega))]; exact h1
    · rw [up_ne (by omega)]; exact h2
    · rw [up_ne (by omega)]; exact h4
theorem enF_1 {b : Bool} {n : Int} (h : 0 ≤ n ∧ n ≤ 99) : enF ((if b = true then -10 else -200) - n) [true] = if b = true then n else -n := by
  have ht : ([true] : List Bool).headD false = true := rfl
  unfold enF
  rw [if_pos ht]
  cases b with
  | true => rw [if_pos rfl, if_pos rfl, if_pos (by omega)]; omega
  | false =>
    show (if -200 < -200 - n then -10 - (-200 - n) else -200 - n + 200) = -n
    rw [if_neg (by omega)]; omega
def rcF (c : RC) : Int := if c.1 = 0 then 0 else 1
def hcF (v nt : Nat) (h0 : MH) (cs sn nv : Int) (C S E : Int → Int) (c : RC) : MH := if c.1 = 0 then vP v nt h0 c.2.1 (cs + c.2.2.2.length) sn nv (kE C cs c.2.2.2) S E else if c.1 = 1 then vP v nt h0 c.2.1 cs sn c.2.2.1 C S E else vP v nt h0 c.2.1 (cs + c.2.2.2.length) (sn + 1) nv (kE C cs c.2.2.2) (up S sn (enF c.2.2.1 [true])) (up E sn (cs + c.2.2.2.length))
def faV (N : Int) (r : RV) : Int := if r.1 = true ∧ r.2.1 = N then -1 else r.2.1
def cEnd (v nt : Nat) (h0 : MH) (r : RV) (h' : MH) : Prop := ∃ (pl cs sn nv : Int) (C S E : Int → Int), h' = vP v nt h0 pl cs sn nv C S E ∧ (r.1 = true → nv = r.2.2.1 ∧ sn = r.2.2.2.1.length ∧ vrE C S E nt r.2.2.2.1 0 0 cs ∧ sn ≤ 10)
section R10
variable {G : MG} {h0 : MH} {T : Int → Int} {v nt : Nat} {f : Nat → Int} {d : Nat}
theorem c_clause {p cs sn nv : Int} {C S E : Int → Int} (z : qSt G h0) (hv : G.1 ≤ v) (hN : nt ≤ 100) (hx : h0.2.2 (v + 1) = some (cArr 0 nt f)) (hf : ∀ i : Nat, i < nt → f i = T i) (hT : ∀ i, 0 ≤ i → i < (nt : Int) → 0 ≤ T i ∧ T i ≤ 127) (p0 : 0 ≤ p) (p1 : p ≤ nt) (c0 : 0 ≤ cs) (c1 : cs ≤ p) (s0 : 0 ≤ sn ∧ sn ≤ 9) {Q : KQ} : wpC G (d + 24) 73 [vR v] (vP v nt h0 p cs sn nv C S E) Q = Q (some (vI (rcF (clF T nt p)))) (hcF v nt h0 cs sn nv C S E (clF T nt p)) := by
  have hh := fun (K : KQ) => c_here (G := G) (d := d + 22) (Q := K) (h0 := h0) (v := v) (nt := nt) (sn := sn) (nv := nv) (S := S) (E := E) (cs := cs) (C := C) hx hf p0
  have hs : ∀ {i : Nat}, i < 12 → wS (fwF (hrF T nt p)) = wS i → ∀ K : KQ, wpC G (d + 23) 75 [vR v, vR (G.2.1 i)] (vP v nt h0 p cs sn nv C S E) K = K (some (vI (bI (wdF T nt (wS (fwF (hrF T nt p))) p).1))) (vP v nt h0 ((wdF T nt (wS (fwF (hrF T nt p))) p).2) cs sn nv C S E) := fun {i} hi e K => by
    rw [e]; exact c_word (G := G) (d := d + 18) (Q := K) (h0 := h0) (v := v) (nt := nt) (sn := sn) (nv := nv) (S := S) (E := E) (cs := cs) (C := C) z hv hx hf hN hi p0 p1
  have hs0 := fun (e : hrF T nt p = 110) => hs (i := 0) (by decide) (by rw [e]; rfl)
  have hs1 := fun (e : hrF T nt p = 98) => hs (i := 1) (by decide) (by rw [e]; rfl)
  have hs2 := fun (e1 : ¬ hrF T nt p = 110) (e2 : ¬ hrF T nt p = 98) => hs (i := 2) (by decide) (by unfold fwF; rw [if_neg e1, if_neg e2])
  have hw := wd_b (T := T) (N := nt) (wS (fwF (hrF T nt p))) (wS_0 fw_lt) p p1
  unfold clF
  generalize wdF T nt (wS (fwF (hrF T nt p))) p = a at hs hs0 hs1 hs2 hw ⊢
  rw [e73]
  by_cases a1 : a.1 = true
  · rw [a1] at hs0 hs1 hs2
    rw [if_pos a1]
    have hnb := nu_b (T := T) (N := nt) (p := a.2) hw.2
    have hg := fun (K : KQ) => c_number (G := G) (d := d + 21) (Q := K) (h0 := h0) (v := v) (nt := nt) (sn := sn) (nv := nv) (S := S) (E := E) (p := a.2) (cs := cs) (C := C) hx hf hN hT (by omega) hw.2
    by_cases a2 : (nuF T nt a.2).1 = -1
    · have e4 : (nuF T nt a.2).2 = a.2 := by omega
      rw [a2, e4] at hg
      rw [if_pos a2]
      show _ = Q (some (vI 0)) (vP v nt h0 (a.2) (cs + ((0 : Nat) : Int)) sn nv C S E)
      rw [show cs + ((0 : Nat) : Int) = cs by omega]
      by_cases x1 : hrF T nt p = 110
      · have hs0 := hs0 x1
        simp (disch := omega) only [KK, Int.reduceEq, not_false_iff, ↓reduceIte, ↓if_pos, ↓if_neg, xt_o, true_and, nlO_i, nlO_n, nlO_r, List.length_nil, List.length_cons, Nat.reduceAdd, Nat.reduceLeDiff, Nat.zero_le, U73, vP_v, hh, hs0, hg, x1, bI_t, VS10, true_or, or_true]
      · by_cases x2 : hrF T nt p = 98
        · have hs1 := hs1 x2
          simp (disch := omega) only [KK, Int.reduceEq, not_false_iff, ↓reduceIte, ↓if_pos, ↓if_neg, xt_o, true_and, nlO_i, nlO_n, nlO_r, List.length_nil, List.length_cons, Nat.reduceAdd, Nat.reduceLeDiff, Nat.zero_le, U73, vP_v, hh, hs1, hg, x2, bI_t, VS10, true_or, or_true]
        · have hs2 := hs2 x1 x2
          simp (disch := omega) only [KK, Int.reduceEq, not_false_iff, ↓reduceIte, ↓if_pos, ↓if_neg, xt_o, true_and, nlO_i, nlO_n, nlO_r, List.length_nil, List.length_cons, Nat.reduceAdd, Nat.reduceLeDiff, Nat.zero_le, U73, vP_v, hh, hs2, hg, x1, x2, bI_t, VS10, true_or, or_true]
    · have hnb := hnb.resolve_left (fun q => a2 q.1)
      rw [if_neg a2]
      generalize nuF T nt a.2 = n at hg a2 hnb ⊢
      by_cases x1 : hrF T nt p = 110
      · have hs0 := hs0 x1
        rw [if_pos x1]
        show _ = Q (some (vI 1)) (vP v nt h0 n.2 cs sn n.1 C S E)
        simp (disch := omega) only [KK, Int.reduceEq, not_false_iff, ↓reduceIte, ↓if_pos, ↓if_neg, xt_o, true_and, nlO_i, nlO_n, nlO_r, List.length_nil, List.length_cons, Nat.reduceAdd, Nat.reduceLeDiff, Nat.zero_le, U73, vP_v, hh, hs0, hg, x1, a2, bI_t, vP_v, vP_hv, GX10, PX10, VS10, true_or, or_true]
      · rw [if_neg x1]
        have hu := fun (K : KQ) => c_word (G := G) (d := d + 18) (Q := K) (h0 := h0) (v := v) (nt := nt) (sn := sn) (nv := nv) (S := S) (E := E) (p := n.2) (cs := cs) (C := C) z hv hx hf hN (i := 3) (by decide) (by omega) hnb.2.2
        by_cases a4 : hrF T nt n.2 = 32
        · have e : wdF T nt (wS 3) n.2 = (true, n.2 + 1) := if_pos a4
          rw [e] at hu
          have lt := hr_lt (T := T) (N := nt) (p := n.2) (by omega)
          have hF := fun (p cs : Int) (C : Int → Int) (p0 : 0 ≤ p) (p1 : p ≤ (nt : Int)) (c0 : 0 ≤ cs) (c1 : cs ≤ p) (Q : KQ) => c_sgl (G := G) (h0 := h0) (v := v) (nt := nt) (sn := sn) (nv := nv) (S := S) (E := E) z hv hN hx hf hT 5 d (by decide) p cs C p0 p1 c0 c1 Q
          have hE := c_both (G := G) (D := d + 15) (h0 := h0) (v := v) (nt := nt) (sn := sn) (nv := nv) (S := S) (E := E) (o := 0) hN hx hf (sg_g 5) hF
          have hS : ∀ Q : KQ, wpC G (d + 23) 77 [vR v, vI 0] (vP v nt h0 (n.2 + 1) cs sn nv C S E) Q = Q (some (vI (bI (eiF T nt (sgF T nt 5) (n.2 + 1)).1))) (vP v nt h0 ((eiF T nt (sgF T nt 5) (n.2 + 1)).2.1) (cs + (eiF T nt (sgF T nt 5) (n.2 + 1)).2.2.length) sn nv (kE C cs (eiF T nt (sgF T nt 5) (n.2 + 1)).2.2) S E) := c_either (G := G) (D := d + 16) (h0 := h0) (v := v) (nt := nt) (sn := sn) (nv := nv) (S := S) (E := E) (o := 0) hN hx hf (bo_g (sg_g 5)) hE (n.2 + 1) cs C (by omega) (by omega) c0 (by omega)
          obtain ⟨⟨b1, b2⟩, b3, -, -⟩ := ei_g (T := T) (N := nt) (sg_g 5) (n.2 + 1) (by omega) (by omega)
          rw [if_pos a4]
          generalize eiF T nt (sgF T nt 5) (n.2 + 1) = r at hS b1 b2 b3 ⊢
          obtain ⟨b, q, l⟩ := r
          have b1 : n.2 + 1 ≤ q := b1
          have b2 : q ≤ (nt : Int) := b2
          have b3 : (l.length : Int) ≤ q - (n.2 + 1) := b3
          cases b with
          | true =>
            have hen := fun (b : Bool) => enF_1 (b := b) (n := n.1) hnb.1
            rw [if_pos rfl]
            by_cases x2 : hrF T nt p = 98
            · have hs1 := hs1 x2
              show _ = Q (some (vI 1)) (vP v nt h0 q (cs + (l.length : Nat)) (sn + 1) nv (kE C cs l) (up S sn (enF ((if hrF T nt p = 98 then (-10 : Int) else -200) - n.1) [true])) (up E sn (cs + (l.length : Nat))))
              have e5 : enF ((if hrF T nt p = 98 then (-10 : Int) else -200) - n.1) [true] = n.1 := by rw [if_pos x2]; exact hen true
              rw [e5]
              simp (disch := omega) only [KK, Int.reduceEq, not_false_iff, ↓reduceIte, ↓if_pos, ↓if_neg, xt_o, true_and, nlO_i, nlO_n, nlO_r, List.length_nil, List.length_cons, Nat.reduceAdd, Nat.reduceLeDiff, Nat.zero_le, U73, vP_v, hh, hs1, hg, hu, hS, x2, a2, bI_t, vP_v, vP_s, vP_e, vP_hv, vP_hs, vP_he, GX10, PX10, VS10, xs_i, ar_add, true_or, or_true]
            · have hs2 := hs2 x1 x2
              show _ = Q (some (vI 1)) (vP v nt h0 q (cs + (l.length : Nat)) (sn + 1) nv (kE C cs l) (up S sn (enF ((if hrF T nt p = 98 then (-10 : Int) else -200) - n.1) [true])) (up E sn (cs + (l.length : Nat))))
              have e5 : enF ((if hrF T nt p = 98 then (-10 : Int) else -200) - n.1) [true] = -n.1 := by rw [if_neg x2]; exact hen false
              rw [e5]
              simp (disch := omega) only [KK, Int.reduceEq, not_false_iff, ↓reduceIte, ↓if_pos, ↓if_neg, xt_o, true_and, nlO_i, nlO_n, nlO_r, List.length_nil, List.length_cons, Nat.reduceAdd, Nat.reduceLeDiff, Nat.zero_le, U73, vP_v, hh, hs2, hg, hu, hS, x1, x2, a2, bI_t, vP_v, vP_s, vP_e, vP_hv, vP_hs, vP_he, GX10, PX10, VS10, xs_i, ar_add, ar_neg, true_or, or_true]
          | false =>
            rw [if_neg (fun z => ff_t z)]
            show _ = Q (some (vI 0)) (vP v nt h0 q (cs + (l.length : Nat)) sn nv (kE C cs l) S E)
            by_cases x2 : hrF T nt p = 98
            · have hs1 := hs1 x2
              simp (disch := omega) only [KK, Int.reduceEq, not_false_iff, ↓reduceIte, ↓if_pos, ↓if_neg, xt_o, true_and, nlO_i, nlO_n, nlO_r, List.length_nil, List.length_cons, Nat.reduceAdd, Nat.reduceLeDiff, Nat.zero_le, U73, vP_v, hh, hs1, hg, hu, hS, x2, a2, bI_t, bI_f, VS10, true_or, or_true]
            · have hs2 := hs2 x1 x2
              simp (disch := omega) only [KK, Int.reduceEq, not_false_iff, ↓reduceIte, ↓if_pos, ↓if_neg, xt_o, true_and, nlO_i, nlO_n, nlO_r, List.length_nil, List.length_cons, Nat.reduceAdd, Nat.reduceLeDiff, Nat.zero_le, U73, vP_v, hh, hs2, hg, hu, hS, x1, x2, a2, bI_t, bI_f, VS10, true_or, or_true]
        · have e : wdF T nt (wS 3) n.2 = (false, n.2) := if_neg a4
          rw [e] at hu
          rw [if_neg a4]
          show _ = Q (some (vI 0)) (vP v nt h0 (n.2) (cs + ((0 : Nat) : Int)) sn nv C S E)
          rw [show cs + ((0 : Nat) : Int) = cs by omega]
          by_cases x2 : hrF T nt p = 98
          · have hs1 := hs1 x2
            simp (disch := omega) only [KK, Int.reduceEq, not_false_iff, ↓reduceIte, ↓if_pos, ↓if_neg, xt_o, true_and, nlO_i, nlO_n, nlO_r, List.length_nil, List.length_cons, Nat.reduceAdd, Nat.reduceLeDiff, Nat.zero_le, U73, vP_v, hh, hs1, hg, hu, x2, a2, bI_t, bI_f, VS10, true_or, or_true]
          · have hs2 := hs2 x1 x2
            simp (disch := omega) only [KK, Int.reduceEq, not_false_iff, ↓reduceIte, ↓if_pos, ↓if_neg, xt_o, true_and, nlO_i, nlO_n, nlO_r, List.length_nil, List.length_cons, Nat.reduceAdd, Nat.reduceLeDiff, Nat.zero_le, U73, vP_v, hh, hs2, hg, hu, x1, x2, a2, bI_t, bI_f, VS10, true_or, or_true]
  · rw [Bool.eq_false_iff.mpr a1] at hs0 hs1 hs2
    rw [if_neg a1]
    show _ = Q (some (vI 0)) (vP v nt h0 (a.2) (cs + ((0 : Nat) : Int)) sn nv C S E)
    rw [show cs + ((0 : Nat) : Int) = cs by omega]
    by_cases x1 : hrF T nt p = 110
    · have hs0 := hs0 x1
      simp (disch := omega) only [KK, Int.reduceEq, not_false_iff, ↓reduceIte, ↓if_pos, ↓if_neg, xt_o, true_and, nlO_i, nlO_n, nlO_r, List.length_nil, List.length_cons, Nat.reduceAdd, Nat.reduceLeDiff, Nat.zero_le, U73, vP_v, hh, hs0, x1, bI_f, VS10, true_or, or_true]
    · by_cases x2 : hrF T nt p = 98
      · have hs1 := hs1 x2
        simp (disch := omega) only [KK, Int.reduceEq, not_false_iff, ↓reduceIte, ↓if_pos, ↓if_neg, xt_o, true_and, nlO_i, nlO_n, nlO_r, List.length_nil, List.length_cons, Nat.reduceAdd, Nat.reduceLeDiff, Nat.zero_le, U73, vP_v, hh, hs1, x2, bI_f, VS10, true_or, or_true]
      · have hs2 := hs2 x1 x2
        simp (disch := omega) only [KK, Int.reduceEq, not_false_iff, ↓reduceIte, ↓if_pos, ↓if_neg, xt_o, true_and, nlO_i, nlO_n, nlO_r, List.length_nil, List.length_cons, Nat.reduceAdd, Nat.reduceLeDiff, Nat.zero_le, U73, vP_v, hh, hs2, x1, x2, bI_f, VS10, true_or, or_true]
theorem c_fau_e {p cs sn nv : Int} {C S E : Int → Int} {b : Bool} {l2 : Option V} {Q : KQ} (hx : h0.2.2 (v + 1) = some (cArr 0 nt f)) : wp G d 72 47 [some (vR v), some (vI (bI b)), l2] [] (vP v nt h0 p cs sn nv C S E) Q = Q (some (vI (if b = true ∧ p = nt then -1 else p))) (vP v nt h0 p cs sn nv C S E) := by
  cases b with
  | true =>
    by_cases c : p = nt
    · rw [if_pos ⟨rfl, c⟩, bI_t]
      simp (disch := omega) only [KK, Int.reduceEq, not_false_iff, ↓reduceIte, ↓if_pos, ↓if_neg, xt_o, true_and, nlO_i, nlO_n, nlO_r, List.length_nil, List.length_cons, Nat.reduceAdd, Nat.reduceLeDiff, Nat.zero_le, U72, vP_v, vP_1, hx, xl_a, GX10, c]
    · rw [if_neg (fun z => c z.2), bI_t]
      simp (disch := omega) only [KK, Int.reduceEq, not_false_iff, ↓reduceIte, ↓if_pos, ↓if_neg, xt_o, true_and, nlO_i, nlO_n, nlO_r, List.length_nil, List.length_cons, Nat.reduceAdd, Nat.reduceLeDiff, Nat.zero_le, U72, vP_v, vP_1, hx, xl_a, GX10, c]
  | false =>
    rw [if_neg (fun z => ff_t z.1), bI_f]
    simp (disch := omega) only [KK, Int.reduceEq, not_false_iff, ↓reduceIte, ↓if_pos, ↓if_neg, xt_o, true_and, nlO_i, nlO_n, nlO_r, List.length_nil, List.length_cons, Nat.reduceAdd, Nat.reduceLeDiff, Nat.zero_le, U72, vP_v, GX10]
theorem c_fau_c (hx : h0.2.2 (v + 1) = some (cArr 0 nt f)) {n : Nat} (IH : ∀ (p cs sn nv : Int) (C S E : Int → Int) (cl : List (List Int × Int)), 0 ≤ p → p ≤ (nt : Int) → 0 ≤ cs → cs ≤ p → sn = cl.length → sn + n ≤ 10 → vrE C S E nt cl 0 0 cs → ∃ h' : MH, cEnd v nt h0 (vlF T nt n p nv cl) h' ∧ ∀ Q : KQ, wp G (d + 24) 72 7 [some (vR v), some (vI 1), some (vI (10 - (n : Int)))] [] (vP v nt h0 p cs sn nv C S E) Q = Q (some (vI (faV nt (vlF T nt n p nv cl)))) h') {c : RC} {p cs sn nv : Int} {C S E : Int → Int} {cl : List (List Int × Int)} (p0 : 0 ≤ p) (hc : gC nt p c) (c0 : 0 ≤ cs) (c1 : cs ≤ p) (e1 : sn = cl.length) (e2 : sn + n ≤ 9) (vr : vrE C S E nt cl 0 0 cs) : ∃ h' : MH, cEnd v nt h0 (vsF c nv cl (vlF T nt n)) h' ∧ ∀ Q : KQ, wp G (d + 24) 72 7 [some (vR v), some (vI (rcF c)), some (vI (10 - (n : Int)))] [] (hcF v nt h0 cs sn nv C S E c) Q = Q (some (vI (faV nt (vsF c nv cl (vlF T nt n))))) h' := by
  obtain ⟨⟨b1, b2⟩, g0, g1, g2⟩ := hc
  unfold rcF hcF vsF
  by_cases k0 : c.1 = 0
  · rw [if_pos k0, if_pos k0, if_pos k0]
    refine ⟨vP v nt h0 c.2.1 (cs + c.2.2.2.length) sn nv (kE C cs c.2.2.2) S E, ⟨c.2.1, cs + c.2.2.2.length, sn, nv, kE C cs c.2.2.2, S, E, rfl, fun q => ff_t q⟩, fun Q => ?_⟩
    have he := c_fau_e (G := G) (d := d + 24) (Q := Q) (h0 := h0) (v := v) (nt := nt) (sn := sn) (nv := nv) (S := S) (E := E) (p := c.2.1) (cs := cs + c.2.2.2.length) (C := kE C cs c.2.2.2) (b := false) (l2 := some (vI (10 - (n : Int)))) hx
    refine Eq.trans ?_ he
    rw [u72_7]
    by_cases k3 : (10 : Int) ≤ 10 - (n : Int)
    · simp (disch := omega) only [KK, Int.reduceEq, not_false_iff, ↓reduceIte, ↓if_pos, ↓if_neg, xt_o, true_and, nlO_i, nlO_n, nlO_r, List.length_nil, List.length_cons, Nat.reduceAdd, Nat.reduceLeDiff, Nat.zero_le, u72_8, u72_10, u72_13, u72_14, k3, bI_f]
    · simp (disch := omega) only [KK, Int.reduceEq, not_false_iff, ↓reduceIte, ↓if_pos, ↓if_neg, xt_o, true_and, nlO_i, nlO_n, nlO_r, List.length_nil, List.length_cons, Nat.reduceAdd, Nat.reduceLeDiff, Nat.zero_le, u72_8, u72_10, u72_13, u72_14, k3, bI_f]
  · rw [if_neg k0, if_neg k0, if_neg k0]
    by_cases k1 : c.1 = 1
    · rw [if_pos k1, if_pos k1]
      exact IH c.2.1 cs sn c.2.2.1 C S E cl (by omega) b2 c0 (by omega) e1 (by omega) vr
    · have g2 := g2 k0 k1
      have g2a := g2.1
      rw [if_neg k1, if_neg k1]
      refine IH c.2.1 _ _ nv _ _ _ _ (by omega) b2 (by omega) (by omega) (by rw [List.length_append, List.length_singleton]; omega) (by omega) ?_
      have := vrE_app g2.2 cl 0 0 cs vr (by omega)
      rw [show (0 : Int) + (cl.length : Int) = sn by omega] at this
      exact this
theorem c_fau_l (z : qSt G h0) (hv : G.1 ≤ v) (hN : nt ≤ 100) (hx : h0.2.2 (v + 1) = some (cArr 0 nt f)) (hf : ∀ i : Nat, i < nt → f i = T i) (hT : ∀ i, 0 ≤ i → i < (nt : Int) → 0 ≤ T i ∧ T i ≤ 127) : ∀ (n : Nat), ∀ (p cs sn nv : Int) (C S E : Int → Int) (cl : List (List Int × Int)), 0 ≤ p → p ≤ (nt : Int) → 0 ≤ cs → cs ≤ p → sn = cl.length → sn + n ≤ 10 → vrE C S E nt cl 0 0 cs → ∃ h' : MH, cEnd v nt h0 (vlF T nt n p nv cl) h' ∧ ∀ Q : KQ, wp G (d + 24) 72 7 [some (vR v), some (vI 1), some (vI (10 - (n : Int)))] [] (vP v nt h0 p cs sn nv C S E) Q = Q (some (vI (faV nt (vlF T nt n p nv cl)))) h' := by
  intro n
  induction n with
  | zero =>
    intro p cs sn nv C S E cl p0 p1 c0 c1 e1 e2 vr
    refine ⟨vP v nt h0 p cs sn nv C S E, ⟨p, cs, sn, nv, C, S, E, rfl, fun _ => ⟨rfl, e1, vr, by omega⟩⟩, fun Q => ?_⟩
    have he := c_fau_e (G := G) (d := d + 24) (Q := Q) (h0 := h0) (v := v) (nt := nt) (sn := sn) (nv := nv) (S := S) (E := E) (p := p) (cs := cs) (C := C) (b := true) (l2 := some (vI 10)) hx
    refine Eq.trans ?_ he
    rw [u72_7, show (10 - ((0 : Nat) : Int) : Int) = 10 by omega]
    simp (disch := omega) only [KK, Int.reduceEq, not_false_iff, ↓reduceIte, ↓if_pos, ↓if_neg, xt_o, true_and, nlO_i, nlO_n, nlO_r, List.length_nil, List.length_cons, Nat.reduceAdd, Nat.reduceLeDiff, Nat.zero_le, u72_8, u72_10, Int.reduceLE, bI_t]
  | succ n ih =>
    intro p cs sn nv C S E cl p0 p1 c0 c1 e1 e2 vr
    have hh := fun (K : KQ) => c_here (G := G) (d := d + 23) (Q := K) (h0 := h0) (v := v) (nt := nt) (sn := sn) (nv := nv) (S := S) (E := E) (cs := cs) (C := C) hx hf p0
    have en : ¬ 10 ≤ 10 - ((n + 1 : Nat) : Int) := by omega
    have e10 : (10 - ((n + 1 : Nat) : Int) + 1 : Int) = 10 - (n : Int) := by omega
    rw [vlF]
    by_cases q : hrF T nt p = 59
    · have lt := hr_lt (T := T) (N := nt) (p := p) (by omega)
      have hcl := fun (K : KQ) => c_clause (G := G) (d := d) (Q := K) (h0 := h0) (v := v) (nt := nt) (sn := sn) (nv := nv) (S := S) (E := E) (p := p + 1) (cs := cs) (C := C) z hv hN hx hf hT (by omega) (by omega) c0 (by omega) ⟨by omega, by omega⟩
      obtain ⟨h', r1, r2⟩ := c_fau_c (G := G) (d := d) (nv := nv) hx ih (p := p + 1) (by omega) (cl_g (T := T) (N := nt) (p := p + 1) (by omega) (by omega)) c0 (by omega) e1 (by omega) vr
      rw [if_pos q]
      refine ⟨h', r1, fun Q => ?_⟩
      rw [← r2 Q, u72_7]
      simp (disch := omega) only [KK, Int.reduceEq, not_false_iff, ↓reduceIte, ↓if_pos, ↓if_neg, xt_o, true_and, nlO_i, nlO_n, nlO_r, List.length_nil, List.length_cons, Nat.reduceAdd, Nat.reduceLeDiff, Nat.zero_le, U72, vP_v, vP_hv, hh, q, hcl, en, e10, GX10, PX10, VS10, ar_add]
    · rw [if_neg q]
      refine ⟨vP v nt h0 p cs sn nv C S E, ⟨p, cs, sn, nv, C, S, E, rfl, fun _ => ⟨rfl, e1, vr, by omega⟩⟩, fun Q => ?_⟩
      have he := c_fau_e (G := G) (d := d + 24) (Q := Q) (h0 := h0) (v := v) (nt := nt) (sn := sn) (nv := nv) (S := S) (E := E) (p := p) (cs := cs) (C := C) (b := true) (l2 := some (vI (10 - ((n + 1 : Nat) : Int)))) hx
      refine Eq.trans ?_ he
      rw [u72_7]
      simp (disch := omega) only [KK, Int.reduceEq, not_false_iff, ↓reduceIte, ↓if_pos, ↓if_neg, xt_o, true_and, nlO_i, nlO_n, nlO_r, List.length_nil, List.length_cons, Nat.reduceAdd, Nat.reduceLeDiff, Nat.zero_le, u72_8, u72_10, u72_13, u72_14, u72_17, u72_18, u72_21, u72_23, vP_v, hh, q, en, VS10, bI_t]
theorem c_fault (z : qSt G h0) (hv : G.1 ≤ v) (hN : nt ≤ 100) (hx : h0.2.2 (v + 1) = some (cArr 0 nt f)) (hf : ∀ i : Nat, i < nt → f i = T i) (hT : ∀ i, 0 ≤ i → i < (nt : Int) → 0 ≤ T i ∧ T i ≤ 127) {C S E : Int → Int} : ∃ h' : MH, cEnd v nt h0 (vaF T nt) h' ∧ ∀ Q : KQ, wpC G (d + 25) 72 [vR v] (vP v nt h0 0 0 0 12 C S E) Q = Q (some (vI (faV nt (vaF T nt)))) h' := by
  have hcl := fun (K : KQ) => c_clause (G := G) (d := d) (Q := K) (h0 := h0) (v := v) (nt := nt) (sn := 0) (nv := 12) (S := S) (E := E) (p := 0) (cs := 0) (C := C) z hv hN hx hf hT (Int.le_refl 0) (by omega) (Int.le_refl 0) (Int.le_refl 0) ⟨by omega, by omega⟩
  obtain ⟨h', r1, r2⟩ := c_fau_c (G := G) (d := d) (C := C) (S := S) (E := E) (sn := 0) (cs := 0) (nv := 12) (cl := []) hx (c_fau_l z hv hN hx hf hT 9) (p := 0) (Int.le_refl 0) (cl_g (T := T) (N := nt) (p := 0) (by omega) (by omega)) (by omega) (by omega) rfl (by omega) rfl
  refine ⟨h', r1, fun Q => ?_⟩
  have r2 := r2 Q
  rw [show (10 - ((9 : Nat) : Int) : Int) = 1 by omega] at r2
  unfold vaF
  rw [← r2, e72]
  simp (disch := omega) only [KK, Int.reduceEq, not_false_iff, ↓reduceIte, ↓if_pos, ↓if_neg, xt_o, true_and, nlO_i, nlO_n, nlO_r, List.length_nil, List.length_cons, Nat.reduceAdd, Nat.reduceLeDiff, Nat.zero_le, U72, vP_v, hcl, VS10]
end R10
