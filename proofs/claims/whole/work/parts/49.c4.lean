/-! what each kind picks; what is said -/
def chkT (x : Int) : Bool := (List.range 10).all (fun k => decide (iBin 3 (k : Int) x = iBin 3 (iBin 3 x k) 15))
theorem chkT_all : (List.range 256).all (fun n => chkT n) = true := by decide +kernel
theorem tol_of {x k : Int} (h0 : 0 ≤ x) (h1 : x ≤ 255) (k0 : 0 ≤ k) (k1 : k ≤ 9) : iBin 3 k x = iBin 3 (iBin 3 x k) 15 := by
  have h := List.all_eq_true.mp chkT_all x.toNat (List.mem_range.mpr (by omega))
  rw [Int.toNat_of_nonneg h0] at h
  unfold chkT at h
  have h2 := List.all_eq_true.mp h k.toNat (List.mem_range.mpr (by omega))
  rw [Int.toNat_of_nonneg k0] at h2
  exact of_decide_eq_true h2
section C4
variable {G : MG} {d : Nat} {h : MH} {Q : KQ}
theorem c_pkA_l {a1 a2 a3 : Option V} {x : Int} {l4 : Option V} (n4 : nlO l4 = true) : ∀ (n : Nat) (f p r : Int), f + n = 8 → 0 ≤ f → -2147483648 ≤ r → r < 2147483648 → wp G d 101 10 [a1, a2, a3, some (vI x), l4, some (vI p), some (vI r), some (vI f)] [] h Q = Q (some (vI (caF x n f p r))) h := by
  intro n
  induction n with
  | zero =>
    intro f p r hf f0 r0 r1
    rw [caF, u101_10]
    simp (disch := omega) only [KK, Int.reduceEq, not_false_iff, ↓reduceIte, ↓if_pos, ↓if_neg, xt_o, true_and, nlO_i, nlO_n, nlO_r, List.length_nil, List.length_cons, Nat.reduceAdd, Nat.reduceLeDiff, Nat.zero_le, U101]
  | succ n ih =>
    intro f p r hf f0 r0 r1
    rw [caF]
    by_cases c : 0 < r
    · rw [if_pos c]
      by_cases e : bt x f = 1
      · rw [if_pos e, ← ih (f + 1) (iBin 4 p (iBin 6 1 f)) (r - 1) (by omega) (by omega) (by omega) (by omega), u101_10]
        unfold bt at e
        simp (disch := omega) only [KK, Int.reduceEq, not_false_iff, ↓reduceIte, ↓if_pos, ↓if_neg, xt_o, true_and, nlO_i, nlO_n, nlO_r, List.length_nil, List.length_cons, Nat.reduceAdd, Nat.reduceLeDiff, Nat.zero_le, U101, e, n4, ar_add (a := f), ar_add (a := r)]
        rfl
      · rw [if_neg e, ← ih (f + 1) p r (by omega) (by omega) (by omega) (by omega), u101_10]
        unfold bt at e
        simp (disch := omega) only [KK, Int.reduceEq, not_false_iff, ↓reduceIte, ↓if_pos, ↓if_neg, xt_o, true_and, nlO_i, nlO_n, nlO_r, List.length_nil, List.length_cons, Nat.reduceAdd, Nat.reduceLeDiff, Nat.zero_le, U101, n4, ar_add (a := f)]
    · rw [if_neg c, u101_10]
      simp (disch := omega) only [KK, Int.reduceEq, not_false_iff, ↓reduceIte, ↓if_pos, ↓if_neg, xt_o, true_and, nlO_i, nlO_n, nlO_r, List.length_nil, List.length_cons, Nat.reduceAdd, Nat.reduceLeDiff, Nat.zero_le, U101]
theorem c_pkA {a1 a2 a3 : V} {x many : Int} (h0 : 0 ≤ x) (h1 : x ≤ 255) (hm : 0 ≤ many ∧ many < 2147483648) {s : Int → Int} {a w : Nat} {hd : Int} : wpC G (d + 1) 101 [vR a, vR w, vI hd, vI x, vI many] h Q = Q (some (vI (CHO s x many 0))) h := by
  rw [e101, ← caF_all h0 h1, ← c_pkA_l (G := G) (d := d) (h := h) (Q := Q) (a1 := some (vR a)) (a2 := some (vR w)) (a3 := some (vI hd)) (l4 := some (vI many)) rfl 8 0 0 many rfl (by omega) (by omega) hm.2]
  simp only [KK, Int.reduceEq, not_false_iff, ↓reduceIte, ↓if_pos, ↓if_neg, xt_o, true_and, nlO_i, nlO_n, nlO_r, List.length_nil, List.length_cons, Nat.reduceAdd, Nat.reduceLeDiff, Nat.zero_le, U101]
theorem c_pkS_l {a1 a2 a3 : Option V} {x : Int} {l4 : Option V} (n4 : nlO l4 = true) : ∀ (n : Nat) (p r : Int), n ≤ 8 → -2147483648 ≤ r → r < 2147483648 → wp G d 118 11 [a1, a2, a3, some (vI x), l4, some (vI p), some (vI r), some (vI ((n : Int) - 1))] [] h Q = Q (some (vI (cdF x n p r))) h := by
  intro n
  induction n with
  | zero =>
    intro p r hf r0 r1
    rw [cdF, u118_11]
    simp (disch := omega) only [KK, Int.reduceEq, not_false_iff, ↓reduceIte, ↓if_pos, ↓if_neg, xt_o, true_and, nlO_i, nlO_n, nlO_r, List.length_nil, List.length_cons, Nat.reduceAdd, Nat.reduceLeDiff, Nat.zero_le, U118]
  | succ n ih =>
    intro p r hf r0 r1
    rw [cdF, show ((n + 1 : Nat) : Int) - 1 = (n : Int) by omega]
    by_cases c : 0 < r
    · rw [if_pos c]
      by_cases e : bt x n = 1
      · rw [if_pos e, ← ih (iBin 4 p (iBin 6 1 n)) (r - 1) (by omega) (by omega) (by omega), u118_11]
        unfold bt at e
        simp (disch := omega) only [KK, Int.reduceEq, not_false_iff, ↓reduceIte, ↓if_pos, ↓if_neg, xt_o, true_and, nlO_i, nlO_n, nlO_r, List.length_nil, List.length_cons, Nat.reduceAdd, Nat.reduceLeDiff, Nat.zero_le, U118, e, n4, ar_add (a := (n : Int)), ar_add (a := r)]
        rfl
      · rw [if_neg e, ← ih p r (by omega) (by omega) (by omega), u118_11]
        unfold bt at e
        simp (disch := omega) only [KK, Int.reduceEq, not_false_iff, ↓reduceIte, ↓if_pos, ↓if_neg, xt_o, true_and, nlO_i, nlO_n, nlO_r, List.length_nil, List.length_cons, Nat.reduceAdd, Nat.reduceLeDiff, Nat.zero_le, U118, n4, ar_add (a := (n : Int))]
        rfl
    · rw [if_neg c, u118_11]
      simp (disch := omega) only [KK, Int.reduceEq, not_false_iff, ↓reduceIte, ↓if_pos, ↓if_neg, xt_o, true_and, nlO_i, nlO_n, nlO_r, List.length_nil, List.length_cons, Nat.reduceAdd, Nat.reduceLeDiff, Nat.zero_le, U118]
theorem c_pkS {x many : Int} (h0 : 0 ≤ x) (h1 : x ≤ 255) (hm : 0 ≤ many ∧ many < 2147483648) {s : Int → Int} {a w : Nat} {hd : Int} : wpC G (d + 1) 118 [vR a, vR w, vI hd, vI x, vI many] h Q = Q (some (vI (CHO s x many 2))) h := by
  rw [e118, ← cdF_all h0 h1, ← c_pkS_l (G := G) (d := d) (h := h) (Q := Q) (a1 := some (vR a)) (a2 := some (vR w)) (a3 := some (vI hd)) (l4 := some (vI many)) rfl 8 0 many (by omega) (by omega) hm.2]
  simp only [KK, Int.reduceEq, not_false_iff, ↓reduceIte, ↓if_pos, ↓if_neg, xt_o, true_and, nlO_i, nlO_n, nlO_r, List.length_nil, List.length_cons, Nat.reduceAdd, Nat.reduceLeDiff, Nat.zero_le, U118]
  rfl
variable {w : Nat} {sg dy aw : Int} {s W : Int → Int}
theorem c_pkB_l (hw : h.2.2 w = some (wO w sg dy aw)) (hwt : h.2.2 (w + 4) = some (cArr 0 8 (ix W))) (hW : ∀ f, 0 ≤ f → f < 8 → W f = s (35 + f)) (hs : ∀ f, 0 ≤ f → f < 8 → 0 ≤ s (35 + f)) {a1 a2 l3 : Option V} (n3 : nlO l3 = true) {many : Int} : ∀ (k : Nat) (rest set n : Int) (l8 : Option V), 0 ≤ rest → rest ≤ 255 → rest.toNat < k → 0 ≤ n → n + cnt rest ≤ 8 → nlO l8 = true → wp G (d + 1) 108 9 [a1, some (vR w), a2, l3, some (vI many), some (vI set), some (vI rest), some (vI n), l8] [] h Q = Q (some (vI (choF s many 1 k rest set n))) h := by
  intro k
  induction k with
  | zero => intro rest set n l8 r0 r1 rk; exact absurd rk (Nat.not_lt_zero _)
  | succ k ih =>
    intro rest set n l8 r0 r1 rk n0 hn n8
    have hcn := set_cnt r0 r1
    have hz := (hi_ends r0 r1).2.2.2.2
    by_cases c1 : n < many
    · by_cases c2 : rest = 0
      · rw [choF, if_neg (fun z => z.2 c2), u108_9]
        subst c2
        by_cases c3 : n < 8
        · simp (disch := omega) only [KK, Int.reduceEq, not_false_iff, ↓reduceIte, ↓if_pos, ↓if_neg, xt_o, true_and, nlO_i, nlO_n, nlO_r, List.length_nil, List.length_cons, Nat.reduceAdd, Nat.reduceLeDiff, Nat.zero_le, U108]
        · simp (disch := omega) only [KK, Int.reduceEq, not_false_iff, ↓reduceIte, ↓if_pos, ↓if_neg, xt_o, true_and, nlO_i, nlO_n, nlO_r, List.length_nil, List.length_cons, Nat.reduceAdd, Nat.reduceLeDiff, Nat.zero_le, U108]
      · obtain ⟨p0, p1, p2⟩ := pick_in (s := s) (how := 1) r0 r1 c2
        obtain ⟨-, ⟨q0, q1, q2⟩, -⟩ := set_k r0 r1 p0 p1
        have q3 := q2.resolve_left (by omega)
        have hc := (hi_at r0 r1 p0 p1).2.2 p2
        have hH := fun (K : KQ) => c_heaviest (G := G) (d := d) (h := h) (Q := K) hw hwt hW hs r0 r1 c2
        rw [choF, if_pos ⟨c1, c2⟩, ar_add (a := n) (b := 1) (by omega), ← ih (iBin 3 rest (iBin 5 (iBin 6 1 (pick s rest 1)) (-1))) (iBin 4 set (iBin 6 1 (pick s rest 1))) (n + 1) (some (vI (iBin 6 1 (pick s rest 1)))) q0 (by omega) (by omega) (by omega) (by omega) rfl, u108_9]
        simp (disch := omega) only [KK, Int.reduceEq, not_false_iff, ↓reduceIte, ↓if_pos, ↓if_neg, xt_o, true_and, nlO_i, nlO_n, nlO_r, List.length_nil, List.length_cons, Nat.reduceAdd, Nat.reduceLeDiff, Nat.zero_le, U108, hw, hH, VS11, n8, ar_add (a := n)]
    · rw [choF, if_neg (fun z => c1 z.1), u108_9]
      simp (disch := omega) only [KK, Int.reduceEq, not_false_iff, ↓reduceIte, ↓if_pos, ↓if_neg, xt_o, true_and, nlO_i, nlO_n, nlO_r, List.length_nil, List.length_cons, Nat.reduceAdd, Nat.reduceLeDiff, Nat.zero_le, U108]
theorem c_pkB (hw : h.2.2 w = some (wO w sg dy aw)) (hwt : h.2.2 (w + 4) = some (cArr 0 8 (ix W))) (hW : ∀ f, 0 ≤ f → f < 8 → W f = s (35 + f)) (hs : ∀ f, 0 ≤ f → f < 8 → 0 ≤ s (35 + f)) {x many : Int} (h0 : 0 ≤ x) (h1 : x ≤ 255) {a : Nat} {hd : Int} : wpC G (d + 2) 108 [vR a, vR w, vI hd, vI x, vI many] h Q = Q (some (vI (CHO s x many 1))) h := by
  have hc := set_cnt h0 h1
  unfold CHO
  rw [e108, ← c_pkB_l (G := G) (d := d) (h := h) (Q := Q) hw hwt hW hs (a1 := some (vR a)) (a2 := some (vI hd)) (l3 := some (vI x)) rfl (many := many) 256 x 0 0 none h0 h1 (by omega) (by omega) (by omega) rfl]
  simp only [KK, Int.reduceEq, not_false_iff, ↓reduceIte, ↓if_pos, ↓if_neg, xt_o, true_and, nlO_i, nlO_n, nlO_r, List.length_nil, List.length_cons, Nat.reduceAdd, Nat.reduceLeDiff, Nat.zero_le, U108]
variable {a r : Nat} {k p v kn : Int}
theorem c_pkM {t : Nat} {cell : MC} (ht : cell = AUC r k p v kn) (hk : 0 ≤ k ∧ k ≤ 6) (ha : h.2.2 a = some cell) {x many hd : Int} (hhd : 0 ≤ hd ∧ hd ≤ 255) (h0 : 0 ≤ x) (h1 : x ≤ 255) (hm : 0 ≤ many ∧ many < 2147483648) (hc : ∃ fs, cell = cObj t fs) (ht14 : t < 14) : wpC G (d + 2) 113 [vR a, vR w, vI hd, vI x, vI many] h Q = Q (some (vI (if cnt hd < v then CHO s x many 0 else 0))) h := by
  subst ht
  obtain ⟨fs, hc⟩ := hc
  have hb := fun (K : KQ) => j_bc (G := G) (d := d) (h := h) (Q := K) (x := hd) hhd
  have hA := fun (K : KQ) => c_pkA (G := G) (d := d) (h := h) (Q := K) (a1 := vI 0) (a2 := vI 0) (a3 := vI 0) h0 h1 hm (s := s) (a := a) (w := w) (hd := hd)
  have hx : ∀ K : Nat → Prop, xTag (some (AUC r k p v kn)) K = K t := fun K => by rw [hc]; rfl
  have h14 : (t < 14) = True := eq_true ht14
  rw [e113]
  by_cases c : cnt hd < v
  · rw [if_pos c]
    simp (disch := omega) only [KK, Int.reduceEq, not_false_iff, ↓reduceIte, ↓if_pos, ↓if_neg, xt_o, true_and, nlO_i, nlO_n, nlO_r, List.length_nil, List.length_cons, Nat.reduceAdd, Nat.reduceLeDiff, Nat.zero_le, U113, ha, AG1 hk, hb, hA, hx, h14]
  · rw [if_neg c]
    simp (disch := omega) only [KK, Int.reduceEq, not_false_iff, ↓reduceIte, ↓if_pos, ↓if_neg, xt_o, true_and, nlO_i, nlO_n, nlO_r, List.length_nil, List.length_cons, Nat.reduceAdd, Nat.reduceLeDiff, Nat.zero_le, U113, ha, AG1 hk, hb]
/-- what a kind picks of what is left -/
def PK (s : Int → Int) (k v dy hd x many : Int) (ro : Int → Int) : Int :=
  if k = 1 then CHO s x many 1 else if k = 2 then (if cnt hd < v then CHO s x many 0 else 0) else if k = 3 then CHO s x many 2
  else if k = 4 then iBin 3 (CHO s x many 1) (iBin 5 (iBin 6 1 (v % 8)) (-1)) else if k = 5 then iBin 4 (if cnt hd < v then CHO s x many 0 else 0) (iBin 3 1 (iBin 5 hd (-1)))
  else if k = 6 then iBin 4 (CHO s x many 2) (iBin 3 (ro (dy % 4)) x) else CHO s x many 0
theorem APK (hw : h.2.2 w = some (wO w sg dy aw)) (hwt : h.2.2 (w + 4) = some (cArr 0 8 (ix W))) (hW : ∀ f, 0 ≤ f → f < 8 → W f = s (35 + f)) (hs : ∀ f, 0 ≤ f → f < 8 → 0 ≤ s (35 + f)) (ha : h.2.2 a = some (AUC r k p v kn)) (hk : 0 ≤ k ∧ k ≤ 6) {ro : Int → Int} (hr : k = 6 → h.2.2 r = some (cArr 0 4 (ix ro))) {x many hd : Int} (hhd : 0 ≤ hd ∧ hd ≤ 255) (h0 : 0 ≤ x) (h1 : x ≤ 255) (hm : 0 ≤ many ∧ many < 2147483648) (hv : 0 ≤ v ∧ v ≤ 9) (hdy : 0 ≤ dy ∧ dy ≤ 200000) : xTag (some (AUC r k p v kn)) (kS 40 G (d + 4) [vR a, vR w, vI hd, vI x, vI many] h Q) = Q (some (vI (PK s k v dy hd x many ro))) h := by
  unfold PK
  have r0 := Int.emod_nonneg dy (show (4 : Int) ≠ 0 by decide)
  have r1 := Int.emod_lt_of_pos dy (show (0 : Int) < 4 by decide)
  rcases k7 hk with e | e | e | e | e | e | e <;> subst e
  · have hA := c_pkA (G := G) (d := d + 3) (h := h) (Q := Q) (a1 := vI 0) (a2 := vI 0) (a3 := vI 0) h0 h1 hm (s := s) (a := a) (w := w) (hd := hd)
    rw [AUC_0]
    simp only [xt_o, KK, VS2, hA, Int.reduceEq, ↓reduceIte]
  · have hA := c_pkB (G := G) (d := d + 2) (h := h) (Q := Q) hw hwt hW hs (x := x) (many := many) h0 h1 (a := a) (hd := hd)
    rw [AUC_1]
    simp only [xt_o, KK, VS4, hA, Int.reduceEq, ↓reduceIte]
  · have hA := c_pkM (G := G) (d := d + 2) (h := h) (Q := Q) (w := w) (s := s) (r := r) (k := 2) (t := 5) rfl hk ha (x := x) (many := many) (hd := hd) hhd h0 h1 hm ⟨_, AUC_2⟩ (by decide)
    rw [AUC_2]
    simp only [xt_o, KK, VS5, hA, Int.reduceEq, ↓reduceIte]
  · have hA := c_pkS (G := G) (d := d + 3) (h := h) (Q := Q) h0 h1 hm (s := s) (a := a) (w := w) (hd := hd)
    rw [AUC_3]
    simp only [xt_o, KK, VS8, hA, Int.reduceEq, ↓reduceIte]
  · have hA := fun (K : KQ) => c_pkB (G := G) (d := d + 1) (h := h) (Q := K) hw hwt hW hs (x := x) (many := many) h0 h1 (a := a) (hd := hd)
    rw [AUC_4] at ha ⊢
    simp (disch := omega) only [KK, Int.reduceEq, not_false_iff, ↓reduceIte, ↓if_pos, ↓if_neg, xt_o, true_and, nlO_i, nlO_n, nlO_r, List.length_nil, List.length_cons, Nat.reduceAdd, Nat.reduceLeDiff, Nat.zero_le, VS6, e123, U123, hA, ha, GX6, OKS, ar_rem]
  · have hA := fun (K : KQ) => c_pkM (G := G) (d := d + 1) (h := h) (Q := K) (w := w) (s := s) (r := r) (k := 5) (t := 3) rfl hk ha (x := x) (many := many) (hd := hd) hhd h0 h1 hm ⟨_, AUC_5⟩ (by decide)
    rw [AUC_5] at ha ⊢
    simp (disch := omega) only [KK, Int.reduceEq, not_false_iff, ↓reduceIte, ↓if_pos, ↓if_neg, xt_o, true_and, nlO_i, nlO_n, nlO_r, List.length_nil, List.length_cons, Nat.reduceAdd, Nat.reduceLeDiff, Nat.zero_le, VS3, e128, U128, hA, ha, GX3, OKS]
  · have hA := fun (K : KQ) => c_pkS (G := G) (d := d + 2) (h := h) (Q := K) h0 h1 hm (s := s) (a := a) (w := w) (hd := hd)
    have hR := hr rfl
    have hF := fun (K : KQ) => j_fmod (G := G) (d := d + 2) (h := h) (Q := K) (a := dy) (by omega)
    rw [AUC_6] at ha ⊢
    simp (disch := omega) only [KK, Int.reduceEq, not_false_iff, ↓reduceIte, ↓if_pos, ↓if_neg, xt_o, true_and, nlO_i, nlO_n, nlO_r, List.length_nil, List.length_cons, Nat.reduceAdd, Nat.reduceLeDiff, Nat.zero_le, VS9, e133, U133, hA, hF, hw, ha, hR, GX9, GX11, xa_i, OKS]
end C4
